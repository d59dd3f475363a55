/-! expressions in the model -/
def mst2 (g : hG) (T : sT) (pu : Bool) (t : tok) (L : List tk) : Prop := msq g T pu t L ∧ L.length ≤ t.2.1
def mO (T : sT) (pu : Bool) (L : List tk) (g : hG) (e : hE) (kv : hG → hE → Prop) (r : pr) : Prop := match r with
  | .inl q => ∀ g', lfr pu g g' → mst2 g' T pu q.1 (L ++ q.2) → kv g' e
  | .inr q => ∀ g', lfr pu g g' → mbd g' q.1 q.2 → kv g' e
def mPr (T : sT) (pu : Bool) (e : hE) (X : Nat → hG → hE → Prop) (m : Nat) (w : Int32) (M c : Nat) (P : tok → pr) : Prop := ∀ (d : Nat) (kv : hG → hE → Prop) (g : hG) (t : tok) (L : List tk), mst2 g T pu t L → mO T pu L g e kv (P t) → hcv (d + M + c) m [.ref 1046, .int w] g e kv X
section
variable {d : Nat} {k : Int32 → hG → hE → Prop} {kv : hG → hE → Prop} {X : Nat → hG → hE → Prop} {g : hG} {e : hE} {T : sT} {t : tok} {pu : Bool} {L : List tk} {w : Int32} {M : Nat}
theorem mst2_len (hc : mst2 g T pu t L) : t.2.1 ≤ 700 ∧ L.length ≤ 700 := by
  have := hc.1.2.1.1
  have := hc.1.2.1.2.1
  have := hc.1.1.1.2.1
  have := hc.2
  omega
theorem m_next (hc : msq g T pu t L) (H : ∀ g', lfr pu g g' → msq g' T pu (tkn T t.2.2.1) L → kv g' e) : hcv (d + 3) 227 [.ref 1046] g e kv X := cm_next hc.1 hc.2.1 (fun g' f' m' => H g' (lfr_p f') (msq_p hc f' m' (nx_w hc.2.1).1))
theorem mst2_nx (hc : mst2 g T pu t L) {g' : hG} (h : msq g' T pu (tkn T t.2.2.1) L) : mst2 g' T pu (tkn T t.2.2.1) L := by
  refine ⟨h, ?_⟩
  have := (nx_w hc.1.2.1).2
  have := hc.1.2.1.1
  have := hc.2
  omega
theorem mst2_op {g2 : hG} {t1 : tok} {s s' : List tk} {o : tk} (hb : msq g2 T pu t1 (L ++ s ++ s' ++ [o])) (hl : (L ++ s).length + 1 + s'.length ≤ t1.2.1) : mst2 g2 T pu t1 (L ++ (s ++ (s' ++ [o]))) := by
  rw [← List.append_assoc, ← List.append_assoc]
  refine ⟨hb, ?_⟩
  rw [List.length_append, List.length_append, List.length_singleton]
  omega
/-- with a fault nothing is done -/
theorem cmb_part (h0 : ¬ g.1 1046 22 = 0) (H : kv g e) : hcv (d + 1) 235 [.ref 1046, .int w] g e kv X := zh_X8_readPart (zbr_f h0 H)
theorem cmb_product (h0 : ¬ g.1 1046 22 = 0) (H : kv g e) : hcv (d + 2) 236 [.ref 1046, .int w] g e kv X := zh_X8_readProduct (cmb_part h0 (zh_X8_readProduct_5 (cmb_isMarked h0 (zbr_t rfl (cmb_isMarked h0 (zbr_t rfl H))))))
theorem cmb_sum (h0 : ¬ g.1 1046 22 = 0) (H : kv g e) : hcv (d + 3) 237 [.ref 1046, .int w] g e kv X := zh_X8_readSum (cmb_product h0 (zh_X8_readSum_5 (cmb_isMarked h0 (zbr_t rfl (cmb_isMarked h0 (zbr_t rfl H))))))
theorem cmb_nots (h0 : ¬ g.1 1046 22 = 0) (H : kv g e) {n : Nat} (hn : n ≤ 7) : ∀ j, j ≤ n → hwv (d + 1) zm_X8_readNot kv X 96 [(0, .ref 1046), (2, .int (nI n)), (3, .int (nI j))] g e := by
  refine hdown ?_ ?_
  · exact zh_X8_readNot_96 (zbr_t (nI_le (Nat.le_refl _) (by omega)) H)
  · intro j hj W
    refine zh_X8_readNot_96 (zbr_f (nI_ge hj (by omega)) (cmb_lay h0 ?_))
    rw [nI_1]
    exact W
theorem cmb_not2 (h0 : ¬ g.1 1046 22 = 0) (H : kv g e) {n : Nat} (hn : n ≤ 7) : hwv (d + 3) zm_X8_readNot kv X 2 [(0, .ref 1046), (1, .int w), (2, .int (nI n))] g e := by
  refine zh_X8_readNot_2 (cmb_is h0 (by decide) (zbr_t rfl (cmb_sum h0 (cmb_isMarked h0 (zbr_t rfl (cmb_isMarked h0 (zbr_t rfl ?_)))))))
  exact cmb_nots h0 H hn 0 (Nat.zero_le _)
theorem cmb_not (h0 : ¬ g.1 1046 22 = 0) (H : kv g e) : hcv (d + 4) 238 [.ref 1046, .int w] g e kv X := zh_X8_readNot (cmb_not2 (n := 0) h0 H (by omega))
theorem cmb_and (h0 : ¬ g.1 1046 22 = 0) (H : kv g e) : hcv (d + 5) 239 [.ref 1046, .int w] g e kv X := zh_X8_readAnd (cmb_not h0 (zh_X8_readAnd_5 (cmb_is h0 (by decide) (zbr_t rfl H))))
theorem cmb_expr (h0 : ¬ g.1 1046 22 = 0) (H : kv g e) : hcv (d + 1) 240 [.ref 1046, .int w] g e kv X := zh_X8_readExpression (zbr_f h0 H)
theorem cM_v : ∀ v, v < 5 → (-1 : Int32) - nI v = cM (1, v) ∧ ¬ nI v = -1 := by decide
theorem cM_n (n : Nat) : cM (0, n) = nI n := rfl
theorem m_partP {A : tok → pr} (hA : mPr T pu e X 240 (w + 1) M 16 A) : mPr T pu e X 235 w M 17 (ppart T pu A) := by
  intro d kv g t L hc H
  have hw := hc.1.2.1
  have hm := hc.1.1
  have h22 := hm.2.2.2.2.2.2
  have k2 := hm.2.1
  have w4 := hw.2.2.2.1
  have hl := mst2_len hc
  have n2 := (nx_w hw).2
  unfold ppart at H
  refine zh_X8_readPart (zbr_t h22 ?_)
  rw [k2]
  by_cases c2 : t.1 = 2
  · have q : ¬ isC T t 40 = true := fun z => by rw [(isC_t.mp z).1] at c2; exact absurd c2 (by decide)
    rw [if_neg q, if_pos c2] at H
    have lt := hw.2.2.1 (by rw [c2]; decide)
    have := hw.2.1
    have := hm.1.2.1
    have := hc.2
    refine zbr_t (by rw [c2]; rfl) (cm_readNumber (top := 9999) hm hw (by omega) (fun _ h1 g' f' m' => ?_) (fun _ h1 g' f' b' => cmb_lay b'.2.1 ?_) (fun h => absurd c2 h))
    · rw [if_pos (by omega)] at H
      refine cm_lay (c := (0, t.2.2.2)) (msq_p hc.1 f' m' (nx_w hw).1) (by omega) (fun g2 f2 m2 => H g2 ((lfr_p f').trans f2) ⟨m2, ?_⟩)
      show (L ++ [(0, t.2.2.2)]).length ≤ (tkn T t.2.2.1).2.1
      rw [List.length_append, List.length_singleton]
      omega
    · rw [if_neg (by omega)] at H
      exact H g' (lfr_p f') b'
  · refine zbr_f (fun z => c2 ((nI_eq (b := 2) (by omega) (by omega)).mp z)) ?_
    by_cases c3 : t.1 = 1
    · have q : ¬ isC T t 40 = true := fun z => by rw [(isC_t.mp z).1] at c3; exact absurd c3 (by decide)
      rw [if_neg q, if_neg c2, if_pos c3] at H
      have lt := hw.2.2.1 (by rw [c3]; decide)
      have := hw.2.1
      have := hm.1.2.1
      have := hc.2
      refine zbr_t (by rw [c3]; rfl) ?_
      rw [hc.1.2.2.1.2]
      refine ⟨(hR_w pu).2.2.2.2.2, cm_whichV hc.1 ?_⟩
      cases hv : pval T pu t with
      | none =>
        rw [hv] at H
        exact zbr_t rfl (cm_wrong (c := 3) h22 hm.2.2.1 (by decide) (by decide) (fun g' f' b' => cmb_lay b'.2.1 (zbr_f b'.2.1 (H g' (lfr_p f') b'))))
      | some v =>
        rw [hv] at H
        obtain ⟨v1, v2⟩ := cM_v v (pval_lt hv)
        refine zbr_f v2 ?_
        show hcv (d + M + 16) 234 [.ref 1046, .int ((-1) - nI v)] g e _ X
        rw [v1]
        refine cm_lay (c := (1, v)) hc.1 (by omega) (fun g2 f2 m2 => zbr_t m2.1.2.2.2.2.2.2 (m_next m2 (fun g3 f3 m3 => H g3 (f2.trans f3) ⟨m3, ?_⟩)))
        show (L ++ [(1, v)]).length ≤ (tkn T t.2.2.1).2.1
        rw [List.length_append, List.length_singleton]
        omega
    · rw [if_neg c2, if_neg c3] at H
      refine zbr_f (fun z => c3 ((nI_eq (b := 1) (by omega) (by omega)).mp z)) (cm_mark (c := 40) hm hw (by omega) (fun q g1 f1 m1 => ?_) (fun q g1 f1 b1 => ?_))
      · rw [if_pos q] at H
        have c1 := mst2_nx hc (msq_p hc.1 f1 m1 (nx_w hw).1)
        refine hA d _ g1 _ L c1 ?_
        cases hq : A (tkn T t.2.2.1) with
        | inr ee =>
          rw [hq] at H
          exact fun g2 f2 b2 => cmb_mark b2.2.1 (H g2 ((lfr_p f1).trans f2) b2)
        | inl r =>
          rw [hq] at H
          have H : mO T pu L g e kv (if isC T r.1 41 = true then .inl (tkn T r.1.2.2.1, r.2) else .inr (1, r.1.2.1)) := H
          intro g2 f2 c2
          refine cm_mark (c := 41) c2.1.1 c2.1.2.1 (by omega) (fun q2 g3 f3 m3 => ?_) (fun q2 g3 f3 b3 => ?_)
          · rw [if_pos q2] at H
            refine H g3 (((lfr_p f1).trans f2).trans (lfr_p f3)) ⟨msq_p c2.1 f3 m3 (nx_w c2.1.2.1).1, ?_⟩
            have := (nx_w c2.1.2.1).2
            have := c2.1.2.1.1
            have := c2.2
            show (L ++ r.2).length ≤ (tkn T r.1.2.2.1).2.1
            omega
          · rw [if_neg (by rw [q2]; decide)] at H
            exact H g3 (((lfr_p f1).trans f2).trans (lfr_p f3)) b3
      · rw [if_neg (by rw [q]; decide)] at H
        exact cmb_expr b1.2.1 (cmb_mark b1.2.1 (H g1 (lfr_p f1) b1))
theorem ml_product {P : tok → pr} {lim : Nat} (hP : mPr T pu e X 235 w M 17 P) (gP : ∀ t, wtk T t → pgd T t lim (P t)) (d : Nat) (kv : hG → hE → Prop) (g : hG) (L : List tk) : ∀ f t1 s g2, 700 ≤ t1.2.1 + f → lfr pu g g2 → mst2 g2 T pu t1 (L ++ s) → mO T pu L g e kv (plp T P (opmul T) f t1 s) → hwv (d + M + 17) zm_X8_readProduct kv X 5 [(0, .ref 1046), (1, .int w)] g2 e := by
  have out : ∀ g2 c a, mbd g2 c a → kv g2 e → hwv (d + M + 17) zm_X8_readProduct kv X 5 [(0, .ref 1046), (1, .int w)] g2 e := fun g2 c a b K => zh_X8_readProduct_5 (cmb_isMarked b.2.1 (zbr_t rfl (cmb_isMarked b.2.1 (zbr_t rfl K))))
  intro f
  induction f with
  | zero =>
    intro t1 s g2 hf f2 c2 H
    have hw1 := c2.1.2.1
    have hT := c2.1.1.1.2.1
    have k0 : t1.1 = 0 := by
      have := hw1.2.1
      have := hw1.2.2.1
      omega
    have H : kv g2 e := H g2 f2 c2
    have nc : ∀ c, isC T t1 c = false := fun c => Bool.eq_false_iff.mpr (fun z => by rw [(isC_t.mp z).1] at k0; exact absurd k0 (by decide))
    refine zh_X8_readProduct_5 (cm_isMarked (c := 42) c2.1.1 hw1 (by omega) ?_)
    rw [nc 42]
    refine zbr_t rfl (cm_isMarked (c := 47) c2.1.1 hw1 (by omega) ?_)
    rw [nc 47]
    exact zbr_t rfl H
  | succ f ih =>
    intro t1 s g2 hf f2 c2 H
    have hw1 := c2.1.2.1
    have no : opmul T t1 = none → kv g2 e := by
      intro h
      unfold plp at H
      rw [h] at H
      exact H g2 f2 c2
    have yes : ∀ o, opmul T t1 = some o → hcv (d + M + 17) 227 [.ref 1046] g2 e (fun g4 e5 => hcv (d + M + 17) 235 [.ref 1046, .int w] g4 e5 (fun g6 e7 => hcv (d + M + 17) 234 [.ref 1046, .int (cM o)] g6 e7 (fun g8 e9 => hwv (d + M + 17) zm_X8_readProduct kv X 5 [(0, .ref 1046), (1, .int w)] g8 e9) X) X) X := by
      intro o ho
      have o3 := (op_mul T t1 o ho).2.2
      have lt := hw1.2.2.1 o3
      unfold plp at H
      rw [ho] at H
      refine m_next c2.1 (fun g3 f3 b3 => hP d _ g3 _ (L ++ s) (mst2_nx c2 b3) ?_)
      have gd := gP _ (nx_w hw1).1
      have H : mO T pu L g e kv (match P (tkn T t1.2.2.1) with | .inl q => plp T P (opmul T) f q.1 (s ++ (q.2 ++ [o])) | .inr e => .inr e) := H
      cases hr : P (tkn T t1.2.2.1) with
      | inr ee =>
        rw [hr] at H
        exact fun g4 f4 b4 => cmb_lay b4.2.1 (out g4 _ _ b4 (H g4 ((f2.trans f3).trans f4) b4))
      | inl r2 =>
        rw [hr] at H gd
        intro g4 f4 c4
        have n2 := (nx_w hw1).2
        have l4 := mst2_len c4
        have := c2.2
        have := gd.2.1
        have lb : (L ++ s).length + 1 + r2.2.length ≤ r2.1.2.1 := by omega
        exact cm_lay c4.1 (by rw [List.length_append]; omega) (fun g5 f5 b5 => ih r2.1 _ g5 (by omega) (((f2.trans f3).trans f4).trans f5) (mst2_op b5 lb) H)
    refine zh_X8_readProduct_5 (cm_isMarked (c := 42) c2.1.1 hw1 (by omega) ?_)
    cases q : isC T t1 42 with
    | true =>
      refine zbr_f (by decide) (zh_X8_readProduct_23 (cm_isMarked (c := 42) c2.1.1 hw1 (by omega) ?_))
      rw [q]
      exact zbr_f (by decide) (yes (3, 6) (by unfold opmul; rw [if_pos q]))
    | false =>
      refine zbr_t rfl (cm_isMarked (c := 47) c2.1.1 hw1 (by omega) ?_)
      cases q2 : isC T t1 47 with
      | false => exact zbr_t rfl (no (by unfold opmul; rw [if_neg (by rw [q]; decide), if_neg (by rw [q2]; decide)]))
      | true =>
        refine zbr_f (by decide) (zh_X8_readProduct_23 (cm_isMarked (c := 42) c2.1.1 hw1 (by omega) ?_))
        rw [q]
        exact zbr_t rfl (yes (3, 7) (by unfold opmul; rw [if_neg (by rw [q]; decide), if_pos q2]))
theorem m_productP {P : tok → pr} {lim : Nat} (hP : mPr T pu e X 235 w M 17 P) (gP : ∀ t, wtk T t → pgd T t lim (P t)) : mPr T pu e X 236 w M 18 (pbin T P (opmul T)) := by
  intro d kv g t L hc H
  refine zh_X8_readProduct (hP d _ g t L hc ?_)
  unfold pbin at H
  cases hq : P t with
  | inr ee =>
    rw [hq] at H
    intro g2 f2 b
    have K : kv g2 e := H g2 f2 b
    exact zh_X8_readProduct_5 (cmb_isMarked b.2.1 (zbr_t rfl (cmb_isMarked b.2.1 (zbr_t rfl K))))
  | inl r =>
    rw [hq] at H
    exact fun g1 f1 c1 => ml_product hP gP d kv g L 700 r.1 r.2 g1 (by omega) f1 c1 H
theorem ml_sum {P : tok → pr} {lim : Nat} (hP : mPr T pu e X 236 w M 18 P) (gP : ∀ t, wtk T t → pgd T t lim (P t)) (d : Nat) (kv : hG → hE → Prop) (g : hG) (L : List tk) : ∀ f t1 s g2, 700 ≤ t1.2.1 + f → lfr pu g g2 → mst2 g2 T pu t1 (L ++ s) → mO T pu L g e kv (plp T P (opsum T) f t1 s) → hwv (d + M + 18) zm_X8_readSum kv X 5 [(0, .ref 1046), (1, .int w)] g2 e := by
  have out : ∀ g2 c a, mbd g2 c a → kv g2 e → hwv (d + M + 18) zm_X8_readSum kv X 5 [(0, .ref 1046), (1, .int w)] g2 e := fun g2 c a b K => zh_X8_readSum_5 (cmb_isMarked b.2.1 (zbr_t rfl (cmb_isMarked b.2.1 (zbr_t rfl K))))
  intro f
  induction f with
  | zero =>
    intro t1 s g2 hf f2 c2 H
    have hw1 := c2.1.2.1
    have hT := c2.1.1.1.2.1
    have k0 : t1.1 = 0 := by
      have := hw1.2.1
      have := hw1.2.2.1
      omega
    have H : kv g2 e := H g2 f2 c2
    have nc : ∀ c, isC T t1 c = false := fun c => Bool.eq_false_iff.mpr (fun z => by rw [(isC_t.mp z).1] at k0; exact absurd k0 (by decide))
    refine zh_X8_readSum_5 (cm_isMarked (c := 43) c2.1.1 hw1 (by omega) ?_)
    rw [nc 43]
    refine zbr_t rfl (cm_isMarked (c := 45) c2.1.1 hw1 (by omega) ?_)
    rw [nc 45]
    exact zbr_t rfl H
  | succ f ih =>
    intro t1 s g2 hf f2 c2 H
    have hw1 := c2.1.2.1
    have no : opsum T t1 = none → kv g2 e := by
      intro h
      unfold plp at H
      rw [h] at H
      exact H g2 f2 c2
    have yes : ∀ o, opsum T t1 = some o → hcv (d + M + 18) 227 [.ref 1046] g2 e (fun g4 e5 => hcv (d + M + 18) 236 [.ref 1046, .int w] g4 e5 (fun g6 e7 => hcv (d + M + 18) 234 [.ref 1046, .int (cM o)] g6 e7 (fun g8 e9 => hwv (d + M + 18) zm_X8_readSum kv X 5 [(0, .ref 1046), (1, .int w)] g8 e9) X) X) X := by
      intro o ho
      have o3 := (op_sum T t1 o ho).2.2
      have lt := hw1.2.2.1 o3
      unfold plp at H
      rw [ho] at H
      refine m_next c2.1 (fun g3 f3 b3 => hP d _ g3 _ (L ++ s) (mst2_nx c2 b3) ?_)
      have gd := gP _ (nx_w hw1).1
      have H : mO T pu L g e kv (match P (tkn T t1.2.2.1) with | .inl q => plp T P (opsum T) f q.1 (s ++ (q.2 ++ [o])) | .inr e => .inr e) := H
      cases hr : P (tkn T t1.2.2.1) with
      | inr ee =>
        rw [hr] at H
        exact fun g4 f4 b4 => cmb_lay b4.2.1 (out g4 _ _ b4 (H g4 ((f2.trans f3).trans f4) b4))
      | inl r2 =>
        rw [hr] at H gd
        intro g4 f4 c4
        have n2 := (nx_w hw1).2
        have l4 := mst2_len c4
        have := c2.2
        have := gd.2.1
        have lb : (L ++ s).length + 1 + r2.2.length ≤ r2.1.2.1 := by omega
        exact cm_lay c4.1 (by rw [List.length_append]; omega) (fun g5 f5 b5 => ih r2.1 _ g5 (by omega) (((f2.trans f3).trans f4).trans f5) (mst2_op b5 lb) H)
    refine zh_X8_readSum_5 (cm_isMarked (c := 43) c2.1.1 hw1 (by omega) ?_)
    cases q : isC T t1 43 with
    | true =>
      refine zbr_f (by decide) (zh_X8_readSum_23 (cm_isMarked (c := 43) c2.1.1 hw1 (by omega) ?_))
      rw [q]
      exact zbr_f (by decide) (yes (3, 4) (by unfold opsum; rw [if_pos q]))
    | false =>
      refine zbr_t rfl (cm_isMarked (c := 45) c2.1.1 hw1 (by omega) ?_)
      cases q2 : isC T t1 45 with
      | false => exact zbr_t rfl (no (by unfold opsum; rw [if_neg (by rw [q]; decide), if_neg (by rw [q2]; decide)]))
      | true =>
        refine zbr_f (by decide) (zh_X8_readSum_23 (cm_isMarked (c := 43) c2.1.1 hw1 (by omega) ?_))
        rw [q]
        exact zbr_t rfl (yes (3, 5) (by unfold opsum; rw [if_neg (by rw [q]; decide), if_pos q2]))
theorem m_sumP {P : tok → pr} {lim : Nat} (hP : mPr T pu e X 236 w M 18 P) (gP : ∀ t, wtk T t → pgd T t lim (P t)) : mPr T pu e X 237 w M 19 (pbin T P (opsum T)) := by
  intro d kv g t L hc H
  refine zh_X8_readSum (hP d _ g t L hc ?_)
  unfold pbin at H
  cases hq : P t with
  | inr ee =>
    rw [hq] at H
    intro g2 f2 b
    have K : kv g2 e := H g2 f2 b
    exact zh_X8_readSum_5 (cmb_isMarked b.2.1 (zbr_t rfl (cmb_isMarked b.2.1 (zbr_t rfl K))))
  | inl r =>
    rw [hq] at H
    exact fun g1 f1 c1 => ml_sum hP gP d kv g L 700 r.1 r.2 g1 (by omega) f1 c1 H
theorem mPr_up {m c : Nat} {P : tok → pr} (h : mPr T pu e X m w M c P) : mPr T pu e X m w M (c + 1) P := by
  intro d kv g t L hc H
  have := h (d + 1) kv g t L hc H
  rw [show d + 1 + M + c = d + M + (c + 1) by omega] at this
  exact this
/-- nots and a comparison are read at once -/
theorem m_notP {P : tok → pr} {lim : Nat} (hP : mPr T pu e X 237 w M 20 P) (gP : ∀ t, wtk T t → pgd T t lim (P t)) : mPr T pu e X 238 w M 21 (pneg T (pcmp T P (opcmp T))) := by
  intro d kv g t L hc H
  have gC := pcmp_gd gP (op_cmp T)
  refine zh_X8_readNot ?_
  unfold pneg at H
  have nots : ∀ i, i ≤ 6 → ∀ r : tok × List tk, (∀ g', lfr pu g g' → mst2 g' T pu r.1 (L ++ (r.2 ++ List.replicate i (2, 0))) → kv g' e) → (L ++ r.2).length + i ≤ r.1.2.1 → ∀ j, j ≤ i → ∀ g4, lfr pu g g4 → msq g4 T pu r.1 (L ++ r.2 ++ List.replicate j (2, 0)) → hwv (d + M + 20) zm_X8_readNot kv X 96 [(0, .ref 1046), (2, .int (nI i)), (3, .int (nI j))] g4 e := by
    intro i hi r H lb
    refine hdown ?_ ?_
    · intro g4 f4 b4
      refine zh_X8_readNot_96 (zbr_t (nI_le (Nat.le_refl _) (by omega)) (H g4 f4 ⟨?_, ?_⟩))
      · rw [List.append_assoc] at b4; exact b4
      · rw [← List.append_assoc, List.length_append, List.length_replicate]; exact lb
    · intro j hj W g4 f4 b4
      have := b4.2.1.1
      have := b4.2.1.2.1
      have := b4.1.1.2.1
      refine zh_X8_readNot_96 (zbr_f (nI_ge hj (by omega)) (cm_lay (c := (2, 0)) b4 (by rw [List.length_append, List.length_replicate]; omega) (fun g5 f5 b5 => ?_)))
      rw [nI_1]
      refine W g5 (f4.trans f5) ?_
      rw [List.replicate_succ', ← List.append_assoc]
      exact b5
  have fin : ∀ i t1 g2, i ≤ 6 → lfr pu g g2 → mst2 g2 T pu t1 L → L.length + i ≤ t1.2.1 → (t1, i) = pnt T 6 t 0 → isW T t1 (htx 9) = false → hcv (d + M + 20) 237 [.ref 1046, .int w] g2 e (fun g4 e5 => hci (d + M + 20) 231 [.ref 1046, .int 60] g4 e5 (fun x8 g6 e7 => zbr (x8 = 0) (hci (d + M + 20) 231 [.ref 1046, .int 61] g6 e7 (fun x11 g9 e10 => zbr (x11 = 0) (hwv (d + M + 20) zm_X8_readNot kv X 96 [(0, .ref 1046), (2, .int (nI i)), (3, .int 0)] g9 e10) (hwv (d + M + 20) zm_X8_readNot kv X 63 [(0, .ref 1046), (1, .int w), (2, .int (nI i))] g9 e10)) X) (hwv (d + M + 20) zm_X8_readNot kv X 63 [(0, .ref 1046), (1, .int w), (2, .int (nI i))] g6 e7)) X) X := by
    intro i t1 g2 hi f2 c2 hl hp q
    rw [← hp] at H
    rw [if_neg (show ¬ isW T (t1, i).1 (htx 9) = true by rw [show isW T (t1, i).1 (htx 9) = false from q]; decide)] at H
    have gd := gC t1 c2.1.2.1
    have H : mO T pu L g e kv (match pcmp T P (opcmp T) t1 with | .inl q => .inl (q.1, q.2 ++ List.replicate i (2, 0)) | .inr e => .inr e) := H
    unfold pcmp at H gd
    refine hP d _ g2 t1 L c2 ?_
    cases hr : P t1 with
    | inr ee =>
      rw [hr] at H
      exact fun g4 f4 b4 => cmb_isMarked b4.2.1 (zbr_t rfl (cmb_isMarked b4.2.1 (zbr_t rfl (cmb_nots b4.2.1 (H g4 (f2.trans f4) b4) (by omega) 0 (Nat.zero_le _)))))
    | inl r =>
      rw [hr] at H gd
      have gr1 := gP t1 c2.1.2.1
      rw [hr] at gr1
      intro g3 f3 c3
      have hw1 := c3.1.2.1
      have H : mO T pu L g e kv (match (match opcmp T r.1 with | none => .inl r | some o => match P (tkn T r.1.2.2.1) with | .inl r2 => .inl (r2.1, r.2 ++ (r2.2 ++ [o])) | .inr e => .inr e : pr) with | .inl q => .inl (q.1, q.2 ++ List.replicate i (2, 0)) | .inr e => .inr e) := H
      have lb1 : (L ++ r.2).length + i ≤ r.1.2.1 := by have := gr1.2.1; rw [List.length_append]; omega
      have no : opcmp T r.1 = none → hwv (d + M + 20) zm_X8_readNot kv X 96 [(0, .ref 1046), (2, .int (nI i)), (3, .int 0)] g3 e := by
        intro h
        rw [h] at H
        exact nots i hi r H lb1 0 (Nat.zero_le _) g3 (f2.trans f3) (by rw [List.replicate_zero, List.append_nil]; exact c3.1)
      have yes : ∀ o, opcmp T r.1 = some o → hcv (d + M + 20) 227 [.ref 1046] g3 e (fun g4 e5 => hcv (d + M + 20) 237 [.ref 1046, .int w] g4 e5 (fun g6 e7 => hcv (d + M + 20) 234 [.ref 1046, .int (cM o)] g6 e7 (fun g8 e9 => hwv (d + M + 20) zm_X8_readNot kv X 96 [(0, .ref 1046), (2, .int (nI i)), (3, .int 0)] g8 e9) X) X) X := by
        intro o ho
        have o3 := (op_cmp T r.1 o ho).2.2
        have lt := hw1.2.2.1 o3
        rw [ho] at H
        refine m_next c3.1 (fun g4 f4 b4 => hP d _ g4 _ (L ++ r.2) (mst2_nx c3 b4) ?_)
        have gd2 := gP _ (nx_w hw1).1
        have H : mO T pu L g e kv (match (match P (tkn T r.1.2.2.1) with | .inl r2 => .inl (r2.1, r.2 ++ (r2.2 ++ [o])) | .inr e => .inr e : pr) with | .inl q => .inl (q.1, q.2 ++ List.replicate i (2, 0)) | .inr e => .inr e) := H
        cases hr2 : P (tkn T r.1.2.2.1) with
        | inr ee =>
          rw [hr2] at H
          exact fun g5 f5 b5 => cmb_lay b5.2.1 (cmb_nots b5.2.1 (H g5 (((f2.trans f3).trans f4).trans f5) b5) (by omega) 0 (Nat.zero_le _))
        | inl r2 =>
          rw [hr2] at H gd2
          intro g5 f5 c5
          have n2 := (nx_w hw1).2
          have l5 := mst2_len c5
          have := gd2.2.1
          have lb2 : (L ++ (r.2 ++ (r2.2 ++ [o]))).length + i ≤ r2.1.2.1 := by
            rw [List.length_append] at lb1
            rw [← List.append_assoc, List.length_append, List.length_append, List.length_append, List.length_singleton]; omega
          refine cm_lay c5.1 (by have := c3.2; rw [List.length_append]; omega) (fun g6 f6 b6 => ?_)
          refine nots i hi (r2.1, r.2 ++ (r2.2 ++ [o])) H lb2 0 (Nat.zero_le _) g6 ((((f2.trans f3).trans f4).trans f5).trans f6) ?_
          rw [List.replicate_zero, List.append_nil]
          show msq g6 T pu r2.1 (L ++ (r.2 ++ (r2.2 ++ [o])))
          rw [← List.append_assoc, ← List.append_assoc]
          exact b6
      refine cm_isMarked (c := 60) c3.1.1 hw1 (by omega) ?_
      cases q1 : isC T r.1 60 with
      | true =>
        refine zbr_f (by decide) (zh_X8_readNot_63 (cm_isMarked (c := 60) c3.1.1 hw1 (by omega) ?_))
        rw [q1]
        exact zbr_f (by decide) (yes (3, 2) (by unfold opcmp; rw [if_pos q1]))
      | false =>
        refine zbr_t rfl (cm_isMarked (c := 61) c3.1.1 hw1 (by omega) ?_)
        cases q2 : isC T r.1 61 with
        | false => exact zbr_t rfl (no (by unfold opcmp; rw [if_neg (by rw [q1]; decide), if_neg (by rw [q2]; decide)]))
        | true =>
          refine zbr_f (by decide) (zh_X8_readNot_63 (cm_isMarked (c := 60) c3.1.1 hw1 (by omega) ?_))
          rw [q1]
          exact zbr_t rfl (yes (3, 3) (by unfold opcmp; rw [if_neg (by rw [q1]; decide), if_pos q2]))
  have main : ∀ f i t1 g2, i + f = 6 → lfr pu g g2 → mst2 g2 T pu t1 L → L.length + i ≤ t1.2.1 → pnt T f t1 i = pnt T 6 t 0 → hwv (d + M + 20) zm_X8_readNot kv X 2 [(0, .ref 1046), (1, .int w), (2, .int (nI i))] g2 e := by
    intro f
    induction f with
    | zero =>
      intro i t1 g2 hi f2 c2 hl hp
      have : i = 6 := by omega
      subst this
      refine zh_X8_readNot_2 (cm_is (p := 46) c2.1.1 c2.1.2.1 (by decide) ?_)
      cases q : isW T t1 (htx 9) with
      | false =>
        rw [show isW T t1 (htx (46 / 2)) = false from q]
        exact zbr_t rfl (fin 6 t1 g2 (by omega) f2 c2 hl hp q)
      | true =>
        rw [show isW T t1 (htx (46 / 2)) = true from q]
        have hp : (t1, 6) = pnt T 6 t 0 := hp
        rw [← hp, if_pos (show isW T (t1, 6).1 (htx 9) = true from q)] at H
        refine zbr_f (by decide) (zbr_t rfl (cm_wrong (c := 2) c2.1.1.2.2.2.2.2.2 c2.1.1.2.2.1 (by decide) (by decide) (fun g' f' b' => zbr_f b'.2.1 ?_)))
        rw [nI_1]
        exact cmb_not2 b'.2.1 (H g' (f2.trans (lfr_p f')) b') (by omega)
    | succ f ih =>
      intro i t1 g2 hi f2 c2 hl hp
      refine zh_X8_readNot_2 (cm_is (p := 46) c2.1.1 c2.1.2.1 (by decide) ?_)
      unfold pnt at hp
      cases q : isW T t1 (htx 9) with
      | false =>
        rw [if_neg (by rw [q]; decide)] at hp
        rw [show isW T t1 (htx (46 / 2)) = false from q]
        exact zbr_t rfl (fin i t1 g2 (by omega) f2 c2 hl hp q)
      | true =>
        rw [if_pos q] at hp
        rw [show isW T t1 (htx (46 / 2)) = true from q]
        refine zbr_f (by decide) (zbr_f (fun z => absurd ((nI_eq (b := 6) (by omega) (by omega)).mp z) (by omega)) (zbr_t c2.1.1.2.2.2.2.2.2 (m_next c2.1 (fun g3 f3 b3 => ?_))))
        rw [nI_1]
        have n2 := (nx_w c2.1.2.1).2
        have := c2.1.2.1.2.2.1 (by rw [(isW_t.mp q).1]; decide)
        exact ih (i + 1) _ g3 (by omega) (f2.trans f3) (mst2_nx c2 b3) (by omega) hp
  exact main 6 0 t g (by omega) lfr.refl hc (by have := hc.2; omega) rfl
theorem ml_and {P : tok → pr} {lim : Nat} (hP : mPr T pu e X 238 w M 21 P) (gP : ∀ t, wtk T t → pgd T t lim (P t)) (d : Nat) (kv : hG → hE → Prop) (g : hG) (L : List tk) : ∀ f t1 s g2, 700 ≤ t1.2.1 + f → lfr pu g g2 → mst2 g2 T pu t1 (L ++ s) → mO T pu L g e kv (plp T P (opand T) f t1 s) → hwv (d + M + 21) zm_X8_readAnd kv X 5 [(0, .ref 1046), (1, .int w)] g2 e := by
  have out : ∀ g2 c a, mbd g2 c a → kv g2 e → hwv (d + M + 21) zm_X8_readAnd kv X 5 [(0, .ref 1046), (1, .int w)] g2 e := fun g2 c a b K => zh_X8_readAnd_5 (cmb_is b.2.1 (by decide) (zbr_t rfl K))
  intro f
  induction f with
  | zero =>
    intro t1 s g2 hf f2 c2 H
    have hw1 := c2.1.2.1
    have hT := c2.1.1.1.2.1
    have k0 : t1.1 = 0 := by
      have := hw1.2.1
      have := hw1.2.2.1
      omega
    have H : kv g2 e := H g2 f2 c2
    refine zh_X8_readAnd_5 (cm_is (p := 48) c2.1.1 hw1 (by decide) ?_)
    rw [show isW T t1 (htx (48 / 2)) = false from Bool.eq_false_iff.mpr (fun z => by rw [(isW_t.mp z).1] at k0; exact absurd k0 (by decide))]
    exact zbr_t rfl H
  | succ f ih =>
    intro t1 s g2 hf f2 c2 H
    have hw1 := c2.1.2.1
    have no : opand T t1 = none → kv g2 e := by
      intro h
      unfold plp at H
      rw [h] at H
      exact H g2 f2 c2
    have yes : ∀ o, opand T t1 = some o → hcv (d + M + 21) 227 [.ref 1046] g2 e (fun g4 e5 => hcv (d + M + 21) 238 [.ref 1046, .int w] g4 e5 (fun g6 e7 => hcv (d + M + 21) 234 [.ref 1046, .int (cM o)] g6 e7 (fun g8 e9 => hwv (d + M + 21) zm_X8_readAnd kv X 5 [(0, .ref 1046), (1, .int w)] g8 e9) X) X) X := by
      intro o ho
      have o3 := (op_and T t1 o ho).2.2
      have lt := hw1.2.2.1 o3
      unfold plp at H
      rw [ho] at H
      refine m_next c2.1 (fun g3 f3 b3 => hP d _ g3 _ (L ++ s) (mst2_nx c2 b3) ?_)
      have gd := gP _ (nx_w hw1).1
      have H : mO T pu L g e kv (match P (tkn T t1.2.2.1) with | .inl q => plp T P (opand T) f q.1 (s ++ (q.2 ++ [o])) | .inr e => .inr e) := H
      cases hr : P (tkn T t1.2.2.1) with
      | inr ee =>
        rw [hr] at H
        exact fun g4 f4 b4 => cmb_lay b4.2.1 (out g4 _ _ b4 (H g4 ((f2.trans f3).trans f4) b4))
      | inl r2 =>
        rw [hr] at H gd
        intro g4 f4 c4
        have n2 := (nx_w hw1).2
        have l4 := mst2_len c4
        have := c2.2
        have := gd.2.1
        have lb : (L ++ s).length + 1 + r2.2.length ≤ r2.1.2.1 := by omega
        exact cm_lay c4.1 (by rw [List.length_append]; omega) (fun g5 f5 b5 => ih r2.1 _ g5 (by omega) (((f2.trans f3).trans f4).trans f5) (mst2_op b5 lb) H)
    refine zh_X8_readAnd_5 (cm_is (p := 48) c2.1.1 hw1 (by decide) ?_)
    cases q : isW T t1 (htx 8) with
    | false =>
      rw [show isW T t1 (htx (48 / 2)) = false from q]
      exact zbr_t rfl (no (by unfold opand; rw [if_neg (by rw [q]; decide)]))
    | true =>
      rw [show isW T t1 (htx (48 / 2)) = true from q]
      exact zbr_f (by decide) (yes (3, 1) (by unfold opand; rw [if_pos q]))
theorem m_andP {P : tok → pr} {lim : Nat} (hP : mPr T pu e X 238 w M 21 P) (gP : ∀ t, wtk T t → pgd T t lim (P t)) : mPr T pu e X 239 w M 22 (pbin T P (opand T)) := by
  intro d kv g t L hc H
  refine zh_X8_readAnd (hP d _ g t L hc ?_)
  unfold pbin at H
  cases hq : P t with
  | inr ee =>
    rw [hq] at H
    intro g2 f2 b
    have K : kv g2 e := H g2 f2 b
    exact zh_X8_readAnd_5 (cmb_is b.2.1 (by decide) (zbr_t rfl K))
  | inl r =>
    rw [hq] at H
    exact fun g1 f1 c1 => ml_and hP gP d kv g L 700 r.1 r.2 g1 (by omega) f1 c1 H
theorem ml_or {P : tok → pr} {lim : Nat} (hP : mPr T pu e X 239 w M 22 P) (gP : ∀ t, wtk T t → pgd T t lim (P t)) (d : Nat) (kv : hG → hE → Prop) (g : hG) (L : List tk) : ∀ f t1 s g2, 700 ≤ t1.2.1 + f → lfr pu g g2 → mst2 g2 T pu t1 (L ++ s) → mO T pu L g e kv (plp T P (opor T) f t1 s) → hwv (d + M + 22) zm_X8_readExpression kv X 67 [(0, .ref 1046), (1, .int w)] g2 e := by
  have out : ∀ g2 c a, mbd g2 c a → kv g2 e → hwv (d + M + 22) zm_X8_readExpression kv X 67 [(0, .ref 1046), (1, .int w)] g2 e := fun g2 c a b K => zh_X8_readExpression_67 (cmb_is b.2.1 (by decide) (zbr_t rfl K))
  intro f
  induction f with
  | zero =>
    intro t1 s g2 hf f2 c2 H
    have hw1 := c2.1.2.1
    have hT := c2.1.1.1.2.1
    have k0 : t1.1 = 0 := by
      have := hw1.2.1
      have := hw1.2.2.1
      omega
    have H : kv g2 e := H g2 f2 c2
    refine zh_X8_readExpression_67 (cm_is (p := 50) c2.1.1 hw1 (by decide) ?_)
    rw [show isW T t1 (htx (50 / 2)) = false from Bool.eq_false_iff.mpr (fun z => by rw [(isW_t.mp z).1] at k0; exact absurd k0 (by decide))]
    exact zbr_t rfl H
  | succ f ih =>
    intro t1 s g2 hf f2 c2 H
    have hw1 := c2.1.2.1
    have no : opor T t1 = none → kv g2 e := by
      intro h
      unfold plp at H
      rw [h] at H
      exact H g2 f2 c2
    have yes : ∀ o, opor T t1 = some o → hcv (d + M + 22) 227 [.ref 1046] g2 e (fun g4 e5 => hcv (d + M + 22) 239 [.ref 1046, .int w] g4 e5 (fun g6 e7 => hcv (d + M + 22) 234 [.ref 1046, .int (cM o)] g6 e7 (fun g8 e9 => hwv (d + M + 22) zm_X8_readExpression kv X 67 [(0, .ref 1046), (1, .int w)] g8 e9) X) X) X := by
      intro o ho
      have o3 := (op_or T t1 o ho).2.2
      have lt := hw1.2.2.1 o3
      unfold plp at H
      rw [ho] at H
      refine m_next c2.1 (fun g3 f3 b3 => hP d _ g3 _ (L ++ s) (mst2_nx c2 b3) ?_)
      have gd := gP _ (nx_w hw1).1
      have H : mO T pu L g e kv (match P (tkn T t1.2.2.1) with | .inl q => plp T P (opor T) f q.1 (s ++ (q.2 ++ [o])) | .inr e => .inr e) := H
      cases hr : P (tkn T t1.2.2.1) with
      | inr ee =>
        rw [hr] at H
        exact fun g4 f4 b4 => cmb_lay b4.2.1 (out g4 _ _ b4 (H g4 ((f2.trans f3).trans f4) b4))
      | inl r2 =>
        rw [hr] at H gd
        intro g4 f4 c4
        have n2 := (nx_w hw1).2
        have l4 := mst2_len c4
        have := c2.2
        have := gd.2.1
        have lb : (L ++ s).length + 1 + r2.2.length ≤ r2.1.2.1 := by omega
        exact cm_lay c4.1 (by rw [List.length_append]; omega) (fun g5 f5 b5 => ih r2.1 _ g5 (by omega) (((f2.trans f3).trans f4).trans f5) (mst2_op b5 lb) H)
    refine zh_X8_readExpression_67 (cm_is (p := 50) c2.1.1 hw1 (by decide) ?_)
    cases q : isW T t1 (htx 7) with
    | false =>
      rw [show isW T t1 (htx (50 / 2)) = false from q]
      exact zbr_t rfl (no (by unfold opor; rw [if_neg (by rw [q]; decide)]))
    | true =>
      rw [show isW T t1 (htx (50 / 2)) = true from q]
      exact zbr_f (by decide) (yes (3, 0) (by unfold opor; rw [if_pos q]))
theorem pany_nb {r : Nat} (h : pbeg T t = false) : pany T pu (r + 1) t = .inr (1, t.2.1) := by
  unfold pbeg at h
  rw [Bool.or_eq_false_iff, Bool.or_eq_false_iff] at h
  obtain ⟨h1, h2, h3⟩ := h
  have n1 := of_decide_eq_false h1
  have n2 := of_decide_eq_false h2
  have e1 : ppart T pu (pany T pu r) t = .inr (1, t.2.1) := by
    unfold ppart
    rw [if_neg (by rw [h3]; decide), if_neg n1, if_neg n2]
  have nw : isW T t (htx 9) = false := Bool.eq_false_iff.mpr (fun z => n2 (isW_t.mp z).1)
  have e2 : pbin T (ppart T pu (pany T pu r)) (opmul T) t = .inr (1, t.2.1) := by unfold pbin; rw [e1]
  have e3 : pbin T (pbin T (ppart T pu (pany T pu r)) (opmul T)) (opsum T) t = .inr (1, t.2.1) := by rw [pbin, e2]
  have e4 : pcmp T (pbin T (pbin T (ppart T pu (pany T pu r)) (opmul T)) (opsum T)) (opcmp T) t = .inr (1, t.2.1) := by unfold pcmp; rw [e3]
  have en : pnt T 6 t 0 = (t, 0) := by
    unfold pnt
    rw [if_neg (by rw [nw]; decide)]
  have e5 : pneg T (pcmp T (pbin T (pbin T (ppart T pu (pany T pu r)) (opmul T)) (opsum T)) (opcmp T)) t = .inr (1, t.2.1) := by
    unfold pneg
    rw [en, if_neg (by rw [nw]; decide), e4]
  have e6 : pbin T (pneg T (pcmp T (pbin T (pbin T (ppart T pu (pany T pu r)) (opmul T)) (opsum T)) (opcmp T))) (opand T) t = .inr (1, t.2.1) := by rw [pbin, e5]
  show pbin T _ (opor T) t = _
  rw [pbin, e6]
theorem m_anyP : ∀ r, r ≤ 6 → mPr T pu e X 240 (nI (6 - r)) (7 * r) 16 (pany T pu r) := by
  have wr : ∀ (d : Nat) (kv : hG → hE → Prop) (g : hG) (t : tok) (L : List tk) (w : Int32) (c : Nat), ¬ c = 0 → c ≤ 5 → mst2 g T pu t L → (∀ g', lfr pu g g' → mbd g' c t.2.1 → kv g' e) → hcv (d + 15) 228 [.ref 1046, .int (nI c)] g e (fun g4 e5 => hcv (d + 15) 239 [.ref 1046, .int w] g4 e5 (fun g6 e7 => hwv (d + 15) zm_X8_readExpression kv X 67 [(0, .ref 1046), (1, .int w)] g6 e7) X) X := by
    intro d kv g t L w c h0 h5 hc H
    exact cm_wrong hc.1.1.2.2.2.2.2.2 hc.1.1.2.2.1 h0 h5 (fun g' f' b' => cmb_and b'.2.1 (zh_X8_readExpression_67 (cmb_is b'.2.1 (by decide) (zbr_t rfl (H g' (lfr_p f') b')))))
  have go : ∀ r, r ≤ 6 → (∀ (d : Nat) (kv : hG → hE → Prop) (g : hG) (t : tok) (L : List tk), pbeg T t = true → mst2 g T pu t L → mO T pu L g e kv (pany T pu r t) → hwv (d + 7 * r + 15) zm_X8_readExpression kv X 33 [(0, .ref 1046), (1, .int (nI (6 - r)))] g e) → mPr T pu e X 240 (nI (6 - r)) (7 * r) 16 (pany T pu r) := by
    intro r hr G d kv g t L hc H
    have hm := hc.1.1
    have k2 := hm.2.1
    have w4 := hc.1.2.1.2.2.2.1
    refine zh_X8_readExpression (zbr_t hm.2.2.2.2.2.2 ?_)
    rw [k2]
    by_cases c2 : t.1 = 2
    · exact zbr_t (by rw [c2]; rfl) (G d kv g t L (by unfold pbeg; rw [decide_eq_true c2]; rfl) hc H)
    · refine zbr_f (fun z => c2 ((nI_eq (b := 2) (by omega) (by omega)).mp z)) ?_
      by_cases c3 : t.1 = 1
      · exact zbr_t (by rw [c3]; rfl) (G d kv g t L (by unfold pbeg; rw [decide_eq_true c3, Bool.true_or, Bool.or_true]) hc H)
      · refine zbr_f (fun z => c3 ((nI_eq (b := 1) (by omega) (by omega)).mp z)) (cm_isMarked (c := 40) hm hc.1.2.1 (by omega) ?_)
        cases q : isC T t 40 with
        | true => exact zbr_f (by decide) (G d kv g t L (by unfold pbeg; rw [q, Bool.or_true, Bool.or_true]) hc H)
        | false =>
          have nb : pbeg T t = false := by unfold pbeg; rw [decide_eq_false c2, decide_eq_false c3, q]; rfl
          have e1 : pany T pu r t = .inr (1, t.2.1) := by
            cases r with
            | zero => show (.inr (if pbeg T t = true then 2 else 1, t.2.1) : pr) = _; rw [if_neg (by rw [nb]; decide)]
            | succ r => exact pany_nb nb
          rw [e1] at H
          exact zbr_t rfl (zbr_t rfl (wr (d + 7 * r) kv g t L _ 1 (by decide) (by decide) hc H))
  intro r
  induction r with
  | zero =>
    intro hr
    refine go 0 hr (fun d kv g t L nb hc H => zh_X8_readExpression_33 (zbr_f (by decide) (zbr_t rfl ?_)))
    have H : ∀ g', lfr pu g g' → mbd g' (if pbeg T t = true then 2 else 1) t.2.1 → kv g' e := H
    rw [if_pos nb] at H
    exact wr (d + 7 * 0) kv g t L _ 2 (by decide) (by decide) hc H
  | succ r ih0 =>
    intro hr
    have ih := ih0 (by omega)
    rw [show nI (6 - r) = nI (6 - (r + 1)) + 1 by rw [nI_1]; congr 1; omega] at ih
    have h0 := ppart_gd (T := T) (pu := pu) (A := pany T pu r) (lim := 5 * r + 1) (by omega) (pany_gd r)
    have h1 := pbin_gd h0 (op_mul T)
    have h2 := pbin_gd h1 (op_sum T)
    have h3 := pcmp_gd h2 (op_cmp T)
    have h4 := pneg_gd h3
    have h5 := pbin_gd h4 (op_and T)
    have pA := m_andP (m_notP (mPr_up (m_sumP (m_productP (m_partP ih) h0) h1)) h2) h4
    refine go (r + 1) hr (fun d kv g t L nb hc H => zh_X8_readExpression_33 (zbr_f (by decide) (zbr_f (fun z => absurd ((nI_eq (b := 6) (by omega) (by omega)).mp z) (by omega)) ?_)))
    rw [show d + 7 * (r + 1) + 15 = d + 7 * r + 22 by omega]
    refine pA d _ g t L hc ?_
    have H : mO T pu L g e kv (pbin T (pbin T (pneg T (pcmp T (pbin T (pbin T (ppart T pu (pany T pu r)) (opmul T)) (opsum T)) (opcmp T))) (opand T)) (opor T) t) := H
    rw [pbin] at H
    cases hq : pbin T (pneg T (pcmp T (pbin T (pbin T (ppart T pu (pany T pu r)) (opmul T)) (opsum T)) (opcmp T))) (opand T) t with
    | inr ee =>
      rw [hq] at H
      exact fun g2 f2 b => zh_X8_readExpression_67 (cmb_is b.2.1 (by decide) (zbr_t rfl (H g2 f2 b)))
    | inl q =>
      rw [hq] at H
      exact fun g1 f1 c1 => ml_or pA h5 d kv g L 700 q.1 q.2 g1 (by omega) f1 c1 H
end
