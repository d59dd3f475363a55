/-! expressions in the class -/
def csb (g : hG) (T : sT) (D : Nat) (pu : Bool) (t : tok) (L : List tk) : Prop := cps g T t ∧ wtk T t ∧ (hD D ∧ g.2.2 1001 7 = D) ∧ g.1 1001 8 = bI pu ∧ g.1 D 5 = nI L.length ∧ ∀ j c, L[j]? = some c → g.1 (D + 7) j = cC c
def cst (g : hG) (T : sT) (D : Nat) (pu : Bool) (t : tok) (L : List tk) : Prop := csb g T D pu t L ∧ L.length ≤ t.2.1
def sfr (D : Nat) (g g' : hG) : Prop := (∀ b, ¬ b = 1001 → ¬ b = D → ¬ b = D + 7 → g'.1 b = g.1 b) ∧ (∀ k, k < 3 ∨ 6 < k → g'.1 1001 k = g.1 1001 k) ∧ (∀ k, ¬ k = 5 → g'.1 D k = g.1 D k) ∧ g'.2 = g.2
theorem sfr.refl {D : Nat} {g : hG} : sfr D g g := ⟨fun _ _ _ _ => rfl, fun _ _ => rfl, fun _ _ => rfl, rfl⟩
theorem sfr.trans {D : Nat} {g g' g'' : hG} (h : sfr D g g') (h' : sfr D g' g'') : sfr D g g'' := ⟨fun b q r u => (h'.1 b q r u).trans (h.1 b q r u), fun k q => (h'.2.1 k q).trans (h.2.1 k q), fun k q => (h'.2.2.1 k q).trans (h.2.2.1 k q), h'.2.2.2.trans h.2.2.2⟩
theorem sfr_t {D : Nat} {g g' : hG} (hD' : hD D) (h : tff g g') : sfr D g g' := ⟨fun b q _ _ => h.1 b q, h.2.1, fun k _ => by rw [h.1 D (by have := hD_lt hD'; omega)], h.2.2⟩
theorem csb_t {g g' : hG} {T : sT} {D : Nat} {pu : Bool} {t t' : tok} {L : List tk} (h : csb g T D pu t L) (f : tff g g') (hc : cps g' T t') (hw : wtk T t') : csb g' T D pu t' L := by
  obtain ⟨h1, h2, h3, h4, h5, h6⟩ := h
  have hl := hD_lt h3.1
  refine ⟨hc, hw, ⟨h3.1, by rw [f.2.2]; exact h3.2⟩, by rw [f.2.1 8 (by omega)]; exact h4, ?_, ?_⟩
  · rw [f.1 D (by omega)]; exact h5
  · rw [f.1 (D + 7) (by omega)]; exact h6
theorem cps_cg {g g' : hG} {T : sT} {t : tok} (h0 : g'.1 1001 = g.1 1001) (h1 : g'.1 1002 = g.1 1002) (h : cps g T t) : cps g' T t := by
  unfold cps ctx
  rw [h0, h1]
  exact h
def cO (T : sT) (D : Nat) (pu : Bool) (L : List tk) (g : hG) (e : hE) (k : Int32 → hG → hE → Prop) (r : pr) : Prop := match r with
  | .inl q => ∀ g', sfr D g g' → cst g' T D pu q.1 (L ++ q.2) → k 1 g' e
  | .inr q => ∀ g', sfr D g g' → cfl g' q.1 q.2 → k 0 g' e
def cPr (T : sT) (D : Nat) (pu : Bool) (e : hE) (X : Nat → hG → hE → Prop) (m : Nat) (w : Int32) (M c : Nat) (P : tok → pr) : Prop := ∀ (d : Nat) (k : Int32 → hG → hE → Prop) (g : hG) (t : tok) (L : List tk), cst g T D pu t L → cO T D pu L g e k (P t) → hci (d + M + c) m [.ref 1001, .int w] g e k X
section
variable {d : Nat} {k : Int32 → hG → hE → Prop} {kv : hG → hE → Prop} {X : Nat → hG → hE → Prop} {g : hG} {e : hE} {T : sT} {t : tok} {D : Nat} {pu : Bool} {L : List tk} {w : Int32} {M : Nat}
theorem c_addStep (hc : csb g T D pu t L) (hl : L.length < 700) {c : tk} (H : ∀ g', sfr D g g' → csb g' T D pu t (L ++ [c]) → kv g' e) : hcv (d + 1) 42 [.ref D, .int (cC c)] g e kv X := by
  obtain ⟨h1, h2, h3, h4, h5, h6⟩ := hc
  have hD' := h3.1
  have hlt := hD_lt hD'
  refine zh_X2_addStep hD' ?_
  rw [h5]
  refine zbr_f (nI_pos (by omega)) (zbr_f (nI_ge hl (by omega)) ⟨nI_in hl (by omega), ?_⟩)
  rw [nI_clamp (by omega), sI_off g (show ¬ D = D + 7 by omega), h5, nI_1]
  refine H _ ⟨fun b q r u => by rw [sI_off _ r, sI_off _ u], fun k q => by rw [sI_off _ (by omega), sI_off _ (by omega)], fun k q => by rw [sI_at, upd_off _ _ q, sI_off _ (by omega)], rfl⟩ ⟨cps_cg (by rw [sI_off _ (by omega), sI_off _ (by omega)]) (by rw [sI_off _ (by omega), sI_off _ (by omega)]) h1, h2, ⟨hD', h3.2⟩, by rw [sI_off _ (by omega), sI_off _ (by omega)]; exact h4, ?_, fun j c' hj => ?_⟩
  · rw [sI_at, upd_at, List.length_append]; rfl
  · rw [sI_off _ (by omega), sI_at]
    by_cases q : j = L.length
    · subst q
      rw [List.getElem?_append_right (Nat.le_refl _), Nat.sub_self] at hj
      rw [upd_at, ← Option.some.inj hj]
    · have hjl : j < L.length := by
        have := (List.getElem?_eq_some_iff.mp hj).1
        rw [List.length_append] at this
        have : j < L.length + 1 := this
        omega
      rw [List.getElem?_append_left hjl] at hj
      rw [upd_off _ _ q]
      exact h6 j c' hj
theorem cst_len (hc : cst g T D pu t L) : t.2.1 ≤ 700 ∧ L.length ≤ 700 := by
  have := hc.1.2.1.1
  have := hc.1.2.1.2.1
  have := hc.1.1.1.2.1
  have := hc.2
  omega
/-- the next token -/
theorem c_nextS (hc : csb g T D pu t L) (H : ∀ g', sfr D g g' → csb g' T D pu (tkn T t.2.2.1) L → kv g' e) : hcv (d + 7) 70 [.ref 1001] g e kv X :=
  c_next hc.1 hc.2.1 (fun g' f' c' => H g' (sfr_t hc.2.2.1.1 (tff_t f')) (csb_t hc (tff_t f') c' (nx_w hc.2.1).1))
theorem c_failS (hc : csb g T D pu t L) {c : Nat} (H : ∀ g', sfr D g g' → cfl g' c t.2.1 → k 0 g' e) : hci (d + 1) 74 [.ref 1001, .int (nI c)] g e k X := c_fail hc.1 (fun g' f' c' => H g' (sfr_t hc.2.2.1.1 f') c')
theorem c_wordS (hc : csb g T D pu t L) {p : Nat} (hp : p < 58 ∧ p % 2 = 0) (H : k (bI (isW T t (htx (p / 2)))) g e) : hci (d + 6) 72 [.ref 1001, .ref p] g e k X := c_isWord hc.1 hc.2.1 hp H
theorem c_signS (hc : csb g T D pu t L) {c : Nat} (hcc : c < 128) (H : k (bI (isC T t c)) g e) : hci (d + 2) 73 [.ref 1001, .int (nI c)] g e k X := c_isSign hc.1 hc.2.1 hcc H
theorem cO_l {r : pr} {q : tok × List tk} (h : r = .inl q) (H : cO T D pu L g e k r) : ∀ g', sfr D g g' → cst g' T D pu q.1 (L ++ q.2) → k 1 g' e := by rw [h] at H; exact H
theorem cO_r {r : pr} {q : Nat × Nat} (h : r = .inr q) (H : cO T D pu L g e k r) : ∀ g', sfr D g g' → cfl g' q.1 q.2 → k 0 g' e := by rw [h] at H; exact H
theorem cst_nx (hc : cst g T D pu t L) {g' : hG} (h : csb g' T D pu (tkn T t.2.2.1) L) : cst g' T D pu (tkn T t.2.2.1) L := by
  refine ⟨h, ?_⟩
  have := (nx_w hc.1.2.1).2
  have := hc.1.2.1.1
  have := hc.2
  omega
theorem c_valueStep (hc : csb g T D pu t L) (H : k (match pval T pu t with | some v => cC (1, v) | none => -99) g e) : hci (d + 7) 90 [.ref 1001] g e k X := by
  have h8 := hc.2.2.2.1
  unfold pval at H
  refine zh_X3_valueStep (c_wordS (p := 6) hc (by decide) ?_)
  cases q3 : isW T t (htx 3) with
  | true => rw [if_pos q3] at H; exact zbr_f (by decide) H
  | false =>
    rw [if_neg (by rw [q3]; decide)] at H
    refine zbr_t rfl (c_wordS (p := 20) hc (by decide) ?_)
    cases q10 : isW T t (htx 10) with
    | true => rw [if_pos q10] at H; exact zbr_f (by decide) H
    | false =>
      rw [if_neg (by rw [q10]; decide)] at H
      refine zbr_t rfl (c_wordS (p := 22) hc (by decide) ?_)
      cases q11 : isW T t (htx 11) with
      | true => rw [if_pos q11] at H; exact zbr_f (by decide) H
      | false =>
        rw [if_neg (by rw [q11]; decide)] at H
        refine zbr_t rfl (c_wordS (p := 24) hc (by decide) ?_)
        cases q12 : isW T t (htx 12) with
        | true => rw [if_pos q12] at H; exact zbr_f (by decide) H
        | false =>
          rw [if_neg (by rw [q12]; decide)] at H
          refine zbr_t rfl ?_
          rw [h8]
          cases pu with
          | false =>
            refine zbr_t rfl (c_wordS (p := 28) hc (by decide) ?_)
            cases q : isW T t (htx 14) with
            | true => rw [if_pos (show isW T t (htx (if false = true then 13 else 14)) = true from q)] at H; exact zbr_f (by decide) H
            | false => rw [if_neg (show ¬ isW T t (htx (if false = true then 13 else 14)) = true by rw [show isW T t (htx (if false = true then 13 else 14)) = false from q]; decide)] at H; exact zbr_t rfl H
          | true =>
            refine zbr_f (by decide) (c_wordS (p := 26) hc (by decide) ?_)
            cases q : isW T t (htx 13) with
            | true => rw [if_pos (show isW T t (htx (if true = true then 13 else 14)) = true from q)] at H; exact zbr_f (by decide) H
            | false => rw [if_neg (show ¬ isW T t (htx (if true = true then 13 else 14)) = true by rw [show isW T t (htx (if true = true then 13 else 14)) = false from q]; decide)] at H; exact zbr_t rfl H
theorem cV_ok : ∀ v, v < 5 → cC (1, v) < 10000 ∧ ¬ cC (1, v) = -99 := by decide
/-- a step, and on -/
theorem c_stepNext (hc : cst g T D pu t L) (h0 : ¬ t.1 = 0) {c : tk} {kk : Int32 → hG → hE → Prop} (H : ∀ g', sfr D g g' → cst g' T D pu (tkn T t.2.2.1) (L ++ [c]) → kk 1 g' e) : hcv (d + 8) 42 [.ref D, .int (cC c)] g e (fun g5 e6 => hcv (d + 8) 70 [.ref 1001] g5 e6 (fun g7 e8 => kk 1 g7 e8) X) X := by
  have hl := cst_len hc
  have hlt := hc.1.2.1.2.2.1 h0
  have := hc.1.2.1.2.1
  have := hc.1.1.1.2.1
  have := hc.2
  refine c_addStep hc.1 (by omega) (fun g1 f1 b1 => c_nextS b1 (fun g2 f2 b2 => H g2 (f1.trans f2) ⟨b2, ?_⟩))
  have := (nx_w hc.1.2.1).2
  rw [List.length_append, List.length_singleton]
  omega
theorem c_partP {A : tok → pr} (hA : cPr T D pu e X 82 (w + 1) M 16 A) (gA : ∀ t, wtk T t → pgd T t (5 * 6 + 1) (A t)) : cPr T D pu e X 89 w M 17 (ppart T pu A) := by
  intro d k g t L hc H
  have hw := hc.1.2.1
  refine zh_X3_part (c_signS (c := 40) hc.1 (by omega) ?_)
  unfold ppart at H
  cases q : isC T t 40 with
  | true =>
    rw [if_pos q] at H
    refine zbr_f (by decide) (c_nextS hc.1 (fun g1 f1 b1 => hA d _ g1 _ L (cst_nx hc b1) ?_))
    have gd := gA _ (nx_w hw).1
    cases hq : A (tkn T t.2.2.1) with
    | inr ee =>
      rw [hq] at H
      exact fun g2 f2 c2 => zbr_t rfl (H g2 (f1.trans f2) c2)
    | inl r =>
      rw [hq] at H gd
      have H : cO T D pu L g e k (if isC T r.1 41 = true then .inl (tkn T r.1.2.2.1, r.2) else .inr (1, r.1.2.1)) := H
      intro g2 f2 c2
      refine zbr_f (by decide) (c_takeSign (c := 41) c2.1.1 c2.1.2.1 (by omega) (fun q2 g3 f3 c3 => zbr_f (by decide) ?_) (fun q2 g3 f3 c3 => zbr_t rfl ?_))
      · rw [if_pos q2] at H
        refine H g3 ((f1.trans f2).trans (sfr_t hc.1.2.2.1.1 f3)) ⟨csb_t c2.1 f3 c3 (nx_w c2.1.2.1).1, ?_⟩
        have := (nx_w c2.1.2.1).2
        have := c2.1.2.1.1
        have := c2.2
        show (L ++ r.2).length ≤ (tkn T r.1.2.2.1).2.1
        omega
      · rw [if_neg (by rw [q2]; decide)] at H
        exact H g3 ((f1.trans f2).trans (sfr_t hc.1.2.2.1.1 f3)) c3
  | false =>
    rw [if_neg (by rw [q]; decide)] at H
    have k2 := hc.1.1.2.1
    have w4 := hw.2.2.2.1
    refine zbr_t rfl ?_
    rw [k2]
    by_cases c2 : t.1 = 2
    · rw [if_pos c2] at H
      have l5 := (hw.2.2.2.2.2 c2).1
      refine zbr_t (by rw [c2]; rfl) (zh_X3_part_60 ?_)
      rw [k2]
      refine zbr_t (by rw [c2]; rfl) (c_number hc.1.1 c2 ?_)
      rw [hc.1.2.2.1.2]
      refine ⟨fun c3 => zbr_f (nneg (c := 99) (by omega) (by omega) (by omega)) ⟨hc.1.2.2.1.1, ?_⟩, fun c3 => ?_⟩
      · rw [if_pos (show t.2.2.2 < 10000 from Nat.lt_of_not_le (fun z => absurd c3 (nI_nlt (b := 10000) z (by omega))))] at H
        exact c_stepNext (c := (0, t.2.2.2)) hc (by rw [c2]; decide) H
      · rw [if_neg (show ¬ t.2.2.2 < 10000 from fun z => c3 (nI_lt (b := 10000) z (by omega)))] at H
        exact c_failS (c := 2) hc.1 (fun g' f' c' => ⟨.inl rfl, H g' f' c'⟩)
    · rw [if_neg c2] at H
      refine zbr_f (fun z => c2 ((nI_eq (b := 2) (by omega) (by omega)).mp z)) ?_
      by_cases c3 : t.1 = 1
      · rw [if_pos c3] at H
        refine zbr_t (by rw [c3]; rfl) (zh_X3_part_60 ?_)
        rw [k2]
        refine zbr_f (fun z => c2 ((nI_eq (b := 2) (by omega) (by omega)).mp z)) (c_valueStep hc.1 ?_)
        cases hv : pval T pu t with
        | none =>
          rw [hv] at H
          exact zbr_t (by decide) (zbr_t rfl (c_failS (c := 3) hc.1 (fun g' f' c' => ⟨.inl rfl, H g' f' c'⟩)))
        | some v =>
          rw [hv] at H
          obtain ⟨v1, v2⟩ := cV_ok v (pval_lt hv)
          refine zbr_t v1 (zbr_f v2 ?_)
          rw [hc.1.2.2.1.2]
          exact ⟨hc.1.2.2.1.1, c_stepNext (c := (1, v)) hc (by rw [c3]; decide) H⟩
      · rw [if_neg c3] at H
        exact zbr_f (fun z => c3 ((nI_eq (b := 1) (by omega) (by omega)).mp z)) (c_failS (c := 1) hc.1 (fun g' f' c' => ⟨.inl rfl, H g' f' c'⟩))
/-- an operation behind its second number -/
theorem cst_op {g1 g2 : hG} {t1 : tok} {s s' : List tk} {o : tk} (hb : csb g2 T D pu t1 (L ++ s ++ s' ++ [o])) (hl : (L ++ s).length + 1 + s'.length ≤ t1.2.1) : cst g2 T D pu t1 (L ++ (s ++ (s' ++ [o]))) := by
  rw [← List.append_assoc, ← List.append_assoc]
  refine ⟨hb, ?_⟩
  rw [List.length_append, List.length_append, List.length_singleton]
  omega
theorem c_productP {P : tok → pr} {lim : Nat} (hP : cPr T D pu e X 89 w M 17 P) (gP : ∀ t, wtk T t → pgd T t lim (P t)) : cPr T D pu e X 88 w M 18 (pbin T P (opmul T)) := by
  intro d k g t L hc H
  refine zh_X3_product (hP d _ g t L hc ?_)
  unfold pbin at H
  cases hq : P t with
  | inr ee =>
    rw [hq] at H
    exact fun g2 f2 c2 => zbr_t rfl (H g2 f2 c2)
  | inl r =>
    rw [hq] at H
    intro g1 f1 c1
    refine zbr_f (by decide) ?_
    have H : cO T D pu L g e k (plp T P (opmul T) 700 r.1 r.2) := H
    have main : ∀ f i, i + f = 700 → ∀ t1 s g2, sfr D g g2 → cst g2 T D pu t1 (L ++ s) → cO T D pu L g e k (plp T P (opmul T) f t1 s) → hwi (d + M + 17) zm_X3_product k X 12 [(0, .ref 1001), (1, .int w), (2, .int (nI i))] g2 e := by
      intro f
      induction f with
      | zero =>
        intro i hi t1 s g2 f2 c2 H
        exact zh_X3_product_12 (zbr_t (by rw [show (700 : Int32) = nI 700 from rfl]; exact nI_le (by omega) (by omega)) (H g2 f2 c2))
      | succ f ih =>
        intro i hi t1 s g2 f2 c2 H
        have hw1 := c2.1.2.1
        refine zh_X3_product_12 (zbr_f (by rw [show (700 : Int32) = nI 700 from rfl]; exact nI_ge (by omega) (by omega)) ?_)
        have no : opmul T t1 = none → k 1 g2 e := by
          intro h
          unfold plp at H
          rw [h] at H
          exact H g2 f2 c2
        have yes : ∀ o, opmul T t1 = some o → hcv (d + M + 17) 70 [.ref 1001] g2 e (fun g4 e5 => hci (d + M + 17) 89 [.ref 1001, .int w] g4 e5 (fun x8 g6 e7 => zbr (x8 = 0) (k 0 g6 e7) (hD (g6.2.2 1001 7) ∧ hcv (d + M + 17) 42 [.ref (g6.2.2 1001 7), .int (cC o)] g6 e7 (fun g10 e11 => hwi (d + M + 17) zm_X3_product k X 12 [(0, .ref 1001), (1, .int w), (2, .int (nI i + 1))] g10 e11) X)) X) X := by
          intro o ho
          have o3 := (op_mul T t1 o ho).2.2
          have lt := hw1.2.2.1 o3
          unfold plp at H
          rw [ho] at H
          refine c_nextS c2.1 (fun g3 f3 b3 => hP d _ g3 _ (L ++ s) (cst_nx c2 b3) ?_)
          have gd := gP _ (nx_w hw1).1
          have H : cO T D pu L g e k (match P (tkn T t1.2.2.1) with | .inl q => plp T P (opmul T) f q.1 (s ++ (q.2 ++ [o])) | .inr e => .inr e) := H
          cases hr : P (tkn T t1.2.2.1) with
          | inr ee =>
            rw [hr] at H
            exact fun g4 f4 c4 => zbr_t rfl (H g4 ((f2.trans f3).trans f4) c4)
          | inl r2 =>
            rw [hr] at H gd
            intro g4 f4 c4
            have n2 := (nx_w hw1).2
            have l4 := cst_len c4
            have := c2.2
            have := gd.2.1
            have lb : (L ++ s).length + 1 + r2.2.length ≤ r2.1.2.1 := by omega
            refine zbr_f (by decide) ?_
            rw [c4.1.2.2.1.2]
            refine ⟨hc.1.2.2.1.1, c_addStep c4.1 (by rw [List.length_append]; omega) (fun g5 f5 b5 => ?_)⟩
            rw [nI_1]
            exact ih (i + 1) (by omega) r2.1 _ g5 (((f2.trans f3).trans f4).trans f5) (cst_op (g1 := g) b5 lb) H
        refine c_signS (c := 42) c2.1 (by omega) ?_
        cases q : isC T t1 42 with
        | true =>
          refine zbr_f (by decide) (zh_X3_product_37 (c_signS (c := 42) c2.1 (by omega) ?_))
          rw [q]
          exact zbr_f (by decide) (yes (3, 6) (by unfold opmul; rw [if_pos q]))
        | false =>
          refine zbr_t rfl (c_signS (c := 47) c2.1 (by omega) ?_)
          cases q2 : isC T t1 47 with
          | false => exact zbr_t rfl (no (by unfold opmul; rw [if_neg (by rw [q]; decide), if_neg (by rw [q2]; decide)]))
          | true =>
            refine zbr_f (by decide) (zh_X3_product_37 (c_signS (c := 42) c2.1 (by omega) ?_))
            rw [q]
            exact zbr_t rfl (yes (3, 7) (by unfold opmul; rw [if_neg (by rw [q]; decide), if_pos q2]))
    exact main 700 0 (by omega) r.1 r.2 g1 f1 c1 H
theorem c_sumP {P : tok → pr} {lim : Nat} (hP : cPr T D pu e X 88 w M 18 P) (gP : ∀ t, wtk T t → pgd T t lim (P t)) : cPr T D pu e X 87 w M 19 (pbin T P (opsum T)) := by
  intro d k g t L hc H
  refine zh_X3_sum (hP d _ g t L hc ?_)
  unfold pbin at H
  cases hq : P t with
  | inr ee =>
    rw [hq] at H
    exact fun g2 f2 c2 => zbr_t rfl (H g2 f2 c2)
  | inl r =>
    rw [hq] at H
    intro g1 f1 c1
    refine zbr_f (by decide) ?_
    have H : cO T D pu L g e k (plp T P (opsum T) 700 r.1 r.2) := H
    have main : ∀ f i, i + f = 700 → ∀ t1 s g2, sfr D g g2 → cst g2 T D pu t1 (L ++ s) → cO T D pu L g e k (plp T P (opsum T) f t1 s) → hwi (d + M + 18) zm_X3_sum k X 12 [(0, .ref 1001), (1, .int w), (2, .int (nI i))] g2 e := by
      intro f
      induction f with
      | zero =>
        intro i hi t1 s g2 f2 c2 H
        exact zh_X3_sum_12 (zbr_t (by rw [show (700 : Int32) = nI 700 from rfl]; exact nI_le (by omega) (by omega)) (H g2 f2 c2))
      | succ f ih =>
        intro i hi t1 s g2 f2 c2 H
        have hw1 := c2.1.2.1
        refine zh_X3_sum_12 (zbr_f (by rw [show (700 : Int32) = nI 700 from rfl]; exact nI_ge (by omega) (by omega)) ?_)
        have no : opsum T t1 = none → k 1 g2 e := by
          intro h
          unfold plp at H
          rw [h] at H
          exact H g2 f2 c2
        have yes : ∀ o, opsum T t1 = some o → hcv (d + M + 18) 70 [.ref 1001] g2 e (fun g4 e5 => hci (d + M + 18) 88 [.ref 1001, .int w] g4 e5 (fun x8 g6 e7 => zbr (x8 = 0) (k 0 g6 e7) (hD (g6.2.2 1001 7) ∧ hcv (d + M + 18) 42 [.ref (g6.2.2 1001 7), .int (cC o)] g6 e7 (fun g10 e11 => hwi (d + M + 18) zm_X3_sum k X 12 [(0, .ref 1001), (1, .int w), (2, .int (nI i + 1))] g10 e11) X)) X) X := by
          intro o ho
          have o3 := (op_sum T t1 o ho).2.2
          have lt := hw1.2.2.1 o3
          unfold plp at H
          rw [ho] at H
          refine c_nextS c2.1 (fun g3 f3 b3 => hP d _ g3 _ (L ++ s) (cst_nx c2 b3) ?_)
          have gd := gP _ (nx_w hw1).1
          have H : cO T D pu L g e k (match P (tkn T t1.2.2.1) with | .inl q => plp T P (opsum T) f q.1 (s ++ (q.2 ++ [o])) | .inr e => .inr e) := H
          cases hr : P (tkn T t1.2.2.1) with
          | inr ee =>
            rw [hr] at H
            exact fun g4 f4 c4 => zbr_t rfl (H g4 ((f2.trans f3).trans f4) c4)
          | inl r2 =>
            rw [hr] at H gd
            intro g4 f4 c4
            have n2 := (nx_w hw1).2
            have l4 := cst_len c4
            have := c2.2
            have := gd.2.1
            have lb : (L ++ s).length + 1 + r2.2.length ≤ r2.1.2.1 := by omega
            refine zbr_f (by decide) ?_
            rw [c4.1.2.2.1.2]
            refine ⟨hc.1.2.2.1.1, c_addStep c4.1 (by rw [List.length_append]; omega) (fun g5 f5 b5 => ?_)⟩
            rw [nI_1]
            exact ih (i + 1) (by omega) r2.1 _ g5 (((f2.trans f3).trans f4).trans f5) (cst_op (g1 := g) b5 lb) H
        refine c_signS (c := 43) c2.1 (by omega) ?_
        cases q : isC T t1 43 with
        | true =>
          refine zbr_f (by decide) (zh_X3_sum_37 (c_signS (c := 43) c2.1 (by omega) ?_))
          rw [q]
          exact zbr_f (by decide) (yes (3, 4) (by unfold opsum; rw [if_pos q]))
        | false =>
          refine zbr_t rfl (c_signS (c := 45) c2.1 (by omega) ?_)
          cases q2 : isC T t1 45 with
          | false => exact zbr_t rfl (no (by unfold opsum; rw [if_neg (by rw [q]; decide), if_neg (by rw [q2]; decide)]))
          | true =>
            refine zbr_f (by decide) (zh_X3_sum_37 (c_signS (c := 43) c2.1 (by omega) ?_))
            rw [q]
            exact zbr_t rfl (yes (3, 5) (by unfold opsum; rw [if_neg (by rw [q]; decide), if_pos q2]))
    exact main 700 0 (by omega) r.1 r.2 g1 f1 c1 H
theorem c_cmpP {P : tok → pr} {lim : Nat} (hP : cPr T D pu e X 87 w M 19 P) (gP : ∀ t, wtk T t → pgd T t lim (P t)) : cPr T D pu e X 86 w M 20 (pcmp T P (opcmp T)) := by
  intro d k g t L hc H
  refine zh_X3_comparison (hP d _ g t L hc ?_)
  unfold pcmp at H
  cases hq : P t with
  | inr ee =>
    rw [hq] at H
    exact fun g2 f2 c2 => zbr_t rfl (H g2 f2 c2)
  | inl r =>
    rw [hq] at H
    intro g2 f2 c2
    refine zbr_f (by decide) ?_
    have hw1 := c2.1.2.1
    have H : cO T D pu L g e k (match opcmp T r.1 with | none => .inl r | some o => match P (tkn T r.1.2.2.1) with | .inl r2 => .inl (r2.1, r.2 ++ (r2.2 ++ [o])) | .inr e => .inr e) := H
    have no : opcmp T r.1 = none → k 1 g2 e := by
      intro h
      rw [h] at H
      exact H g2 f2 c2
    have yes : ∀ o, opcmp T r.1 = some o → hcv (d + M + 19) 70 [.ref 1001] g2 e (fun g4 e5 => hci (d + M + 19) 87 [.ref 1001, .int w] g4 e5 (fun x8 g6 e7 => zbr (x8 = 0) (k 0 g6 e7) (hD (g6.2.2 1001 7) ∧ hcv (d + M + 19) 42 [.ref (g6.2.2 1001 7), .int (cC o)] g6 e7 (fun g10 e11 => k 1 g10 e11) X)) X) X := by
      intro o ho
      have o3 := (op_cmp T r.1 o ho).2.2
      have lt := hw1.2.2.1 o3
      rw [ho] at H
      refine c_nextS c2.1 (fun g3 f3 b3 => hP d _ g3 _ (L ++ r.2) (cst_nx c2 b3) ?_)
      have gd := gP _ (nx_w hw1).1
      have H : cO T D pu L g e k (match P (tkn T r.1.2.2.1) with | .inl r2 => .inl (r2.1, r.2 ++ (r2.2 ++ [o])) | .inr e => .inr e) := H
      cases hr : P (tkn T r.1.2.2.1) with
      | inr ee =>
        rw [hr] at H
        exact fun g4 f4 c4 => zbr_t rfl (H g4 ((f2.trans f3).trans f4) c4)
      | inl r2 =>
        rw [hr] at H gd
        intro g4 f4 c4
        have n2 := (nx_w hw1).2
        have l4 := cst_len c4
        have := c2.2
        have := gd.2.1
        have lb : (L ++ r.2).length + 1 + r2.2.length ≤ r2.1.2.1 := by omega
        refine zbr_f (by decide) ?_
        rw [c4.1.2.2.1.2]
        exact ⟨hc.1.2.2.1.1, c_addStep c4.1 (by rw [List.length_append]; omega) (fun g5 f5 b5 => H g5 (((f2.trans f3).trans f4).trans f5) (cst_op (g1 := g) b5 lb))⟩
    refine c_signS (c := 60) c2.1 (by omega) ?_
    cases q : isC T r.1 60 with
    | true =>
      refine zbr_f (by decide) (zh_X3_comparison_30 (c_signS (c := 60) c2.1 (by omega) ?_))
      rw [q]
      exact zbr_f (by decide) (yes (3, 2) (by unfold opcmp; rw [if_pos q]))
    | false =>
      refine zbr_t rfl (c_signS (c := 61) c2.1 (by omega) ?_)
      cases q2 : isC T r.1 61 with
      | false => exact zbr_t rfl (no (by unfold opcmp; rw [if_neg (by rw [q]; decide), if_neg (by rw [q2]; decide)]))
      | true =>
        refine zbr_f (by decide) (zh_X3_comparison_30 (c_signS (c := 60) c2.1 (by omega) ?_))
        rw [q]
        exact zbr_t rfl (yes (3, 3) (by unfold opcmp; rw [if_neg (by rw [q]; decide), if_pos q2]))
theorem c_negP {P : tok → pr} {lim : Nat} (hP : cPr T D pu e X 86 w M 20 P) (gP : ∀ t, wtk T t → pgd T t lim (P t)) : cPr T D pu e X 85 w M 21 (pneg T P) := by
  intro d k g t L hc H
  refine zh_X3_negation ?_
  unfold pneg at H
  have main : ∀ f i t1 g2, i + f = 6 → sfr D g g2 → cst g2 T D pu t1 L → L.length + i ≤ t1.2.1 → pnt T f t1 i = pnt T 6 t 0 → hwi (d + M + 20) zm_X3_negation k X 2 [(0, .ref 1001), (1, .int w), (2, .int (nI i))] g2 e := by
    have fin : ∀ i t1 g2, i ≤ 6 → sfr D g g2 → cst g2 T D pu t1 L → L.length + i ≤ t1.2.1 → (t1, i) = pnt T 6 t 0 → hwi (d + M + 20) zm_X3_negation k X 27 [(0, .ref 1001), (1, .int w), (2, .int (nI i))] g2 e := by
      intro i t1 g2 hi f2 c2 hl hp
      rw [← hp] at H
      refine zh_X3_negation_27 (c_wordS (p := 18) c2.1 (by decide) ?_)
      cases q : isW T t1 (htx 9) with
      | true =>
        rw [if_pos (show isW T (t1, i).1 (htx 9) = true from q)] at H
        exact zbr_f (by decide) (c_failS (c := 2) c2.1 (fun g' f' c' => ⟨.inl rfl, H g' (f2.trans f') c'⟩))
      | false =>
        rw [if_neg (show ¬ isW T (t1, i).1 (htx 9) = true by rw [show isW T (t1, i).1 (htx 9) = false from q]; decide)] at H
        have gd := gP t1 c2.1.2.1
        refine zbr_t rfl (hP d _ g2 t1 L c2 ?_)
        have H : cO T D pu L g e k (match P t1 with | .inl q => .inl (q.1, q.2 ++ List.replicate i (2, 0)) | .inr e => .inr e) := H
        cases hr : P t1 with
        | inr ee =>
          rw [hr] at H
          exact fun g4 f4 c4 => zbr_t rfl (H g4 (f2.trans f4) c4)
        | inl r =>
          rw [hr] at H gd
          intro g3 f3 c3
          refine zbr_f (by decide) ?_
          have l3 := cst_len c3
          have := gd.2.1
          have lb : (L ++ r.2).length + i ≤ r.1.2.1 := by rw [List.length_append]; omega
          have loop : ∀ j, j ≤ i → ∀ g4, sfr D g g4 → csb g4 T D pu r.1 (L ++ r.2 ++ List.replicate j (2, 0)) → hwi (d + M + 20) zm_X3_negation k X 54 [(0, .ref 1001), (2, .int (nI i)), (3, .int (nI j))] g4 e := by
            refine hdown ?_ ?_
            · intro g4 f4 b4
              refine zh_X3_negation_54 (zbr_t (nI_le (Nat.le_refl _) (by omega)) (H g4 f4 ⟨?_, ?_⟩))
              · rw [List.append_assoc] at b4; exact b4
              · show (L ++ (r.2 ++ List.replicate i (2, 0))).length ≤ r.1.2.1
                rw [← List.append_assoc, List.length_append, List.length_replicate]; exact lb
            · intro j hj W g4 f4 b4
              refine zh_X3_negation_54 (zbr_f (nI_ge hj (by omega)) ?_)
              rw [b4.2.2.1.2]
              refine ⟨hc.1.2.2.1.1, c_addStep (c := (2, 0)) b4 (by rw [List.length_append, List.length_replicate]; omega) (fun g5 f5 b5 => ?_)⟩
              rw [nI_1]
              refine W g5 (f4.trans f5) ?_
              rw [List.replicate_succ', ← List.append_assoc]
              exact b5
          exact loop 0 (Nat.zero_le _) g3 (f2.trans f3) (by rw [List.replicate_zero, List.append_nil]; exact c3.1)
    intro f
    induction f with
    | zero =>
      intro i t1 g2 hi f2 c2 hl hp
      have : i = 6 := by omega
      subst this
      exact zh_X3_negation_2 (zbr_t (by decide) (fin 6 t1 g2 (by omega) f2 c2 hl hp))
    | succ f ih =>
      intro i t1 g2 hi f2 c2 hl hp
      refine zh_X3_negation_2 (zbr_f (by rw [show (6 : Int32) = nI 6 from rfl]; exact nI_ge (by omega) (by omega)) (c_wordS (p := 18) c2.1 (by decide) ?_))
      unfold pnt at hp
      cases q : isW T t1 (htx 9) with
      | false =>
        rw [if_neg (by rw [q]; decide)] at hp
        exact zbr_t rfl (fin i t1 g2 (by omega) f2 c2 hl hp)
      | true =>
        rw [if_pos q] at hp
        refine zbr_f (by decide) (c_nextS c2.1 (fun g3 f3 b3 => ?_))
        rw [nI_1]
        have n2 := (nx_w c2.1.2.1).2
        have := c2.1.2.1.2.2.1 (by rw [(isW_t.mp q).1]; decide)
        exact ih (i + 1) _ g3 (by omega) (f2.trans f3) (cst_nx c2 b3) (by omega) hp
  exact main 6 0 t g (by omega) sfr.refl hc (by have := hc.2; omega) rfl
theorem c_allOfP {P : tok → pr} {lim : Nat} (hP : cPr T D pu e X 85 w M 21 P) (gP : ∀ t, wtk T t → pgd T t lim (P t)) : cPr T D pu e X 84 w M 22 (pbin T P (opand T)) := by
  intro d k g t L hc H
  refine zh_X3_allOf (hP d _ g t L hc ?_)
  unfold pbin at H
  cases hq : P t with
  | inr ee =>
    rw [hq] at H
    exact fun g2 f2 c2 => zbr_t rfl (H g2 f2 c2)
  | inl r =>
    rw [hq] at H
    intro g1 f1 c1
    refine zbr_f (by decide) ?_
    have H : cO T D pu L g e k (plp T P (opand T) 700 r.1 r.2) := H
    have main : ∀ f i, i + f = 700 → ∀ t1 s g2, sfr D g g2 → cst g2 T D pu t1 (L ++ s) → cO T D pu L g e k (plp T P (opand T) f t1 s) → hwi (d + M + 21) zm_X3_allOf k X 12 [(0, .ref 1001), (1, .int w), (2, .int (nI i))] g2 e := by
      intro f
      induction f with
      | zero =>
        intro i hi t1 s g2 f2 c2 H
        exact zh_X3_allOf_12 (zbr_t (by rw [show (700 : Int32) = nI 700 from rfl]; exact nI_le (by omega) (by omega)) (H g2 f2 c2))
      | succ f ih =>
        intro i hi t1 s g2 f2 c2 H
        have hw1 := c2.1.2.1
        refine zh_X3_allOf_12 (zbr_f (by rw [show (700 : Int32) = nI 700 from rfl]; exact nI_ge (by omega) (by omega)) ?_)
        have no : opand T t1 = none → k 1 g2 e := by
          intro h
          unfold plp at H
          rw [h] at H
          exact H g2 f2 c2
        have yes : ∀ o, opand T t1 = some o → hcv (d + M + 21) 70 [.ref 1001] g2 e (fun g4 e5 => hci (d + M + 21) 85 [.ref 1001, .int w] g4 e5 (fun x8 g6 e7 => zbr (x8 = 0) (k 0 g6 e7) (hD (g6.2.2 1001 7) ∧ hcv (d + M + 21) 42 [.ref (g6.2.2 1001 7), .int (cC o)] g6 e7 (fun g10 e11 => hwi (d + M + 21) zm_X3_allOf k X 12 [(0, .ref 1001), (1, .int w), (2, .int (nI i + 1))] g10 e11) X)) X) X := by
          intro o ho
          have o3 := (op_and T t1 o ho).2.2
          have lt := hw1.2.2.1 o3
          unfold plp at H
          rw [ho] at H
          refine c_nextS c2.1 (fun g3 f3 b3 => hP d _ g3 _ (L ++ s) (cst_nx c2 b3) ?_)
          have gd := gP _ (nx_w hw1).1
          have H : cO T D pu L g e k (match P (tkn T t1.2.2.1) with | .inl q => plp T P (opand T) f q.1 (s ++ (q.2 ++ [o])) | .inr e => .inr e) := H
          cases hr : P (tkn T t1.2.2.1) with
          | inr ee =>
            rw [hr] at H
            exact fun g4 f4 c4 => zbr_t rfl (H g4 ((f2.trans f3).trans f4) c4)
          | inl r2 =>
            rw [hr] at H gd
            intro g4 f4 c4
            have n2 := (nx_w hw1).2
            have l4 := cst_len c4
            have := c2.2
            have := gd.2.1
            have lb : (L ++ s).length + 1 + r2.2.length ≤ r2.1.2.1 := by omega
            refine zbr_f (by decide) ?_
            rw [c4.1.2.2.1.2]
            refine ⟨hc.1.2.2.1.1, c_addStep c4.1 (by rw [List.length_append]; omega) (fun g5 f5 b5 => ?_)⟩
            rw [nI_1]
            exact ih (i + 1) (by omega) r2.1 _ g5 (((f2.trans f3).trans f4).trans f5) (cst_op (g1 := g) b5 lb) H
        refine c_wordS (p := 16) c2.1 (by decide) ?_
        cases q : isW T t1 (htx 8) with
        | false => exact zbr_t rfl (no (by unfold opand; rw [if_neg (by rw [q]; decide)]))
        | true => exact zbr_f (by decide) (yes (3, 1) (by unfold opand; rw [if_pos q]))
    exact main 700 0 (by omega) r.1 r.2 g1 f1 c1 H
theorem c_anyOfP {P : tok → pr} {lim : Nat} (hw6 : w < 6) (hP : cPr T D pu e X 84 w M 22 P) (gP : ∀ t, wtk T t → pgd T t lim (P t)) : cPr T D pu e X 82 w M 23 (pbin T P (opor T)) := by
  intro d k g t L hc H
  refine zh_X3_anyOf (zbr_t hw6 (hP d _ g t L hc ?_))
  unfold pbin at H
  cases hq : P t with
  | inr ee =>
    rw [hq] at H
    exact fun g2 f2 c2 => zbr_t rfl (H g2 f2 c2)
  | inl r =>
    rw [hq] at H
    intro g1 f1 c1
    refine zbr_f (by decide) ?_
    have H : cO T D pu L g e k (plp T P (opor T) 700 r.1 r.2) := H
    have main : ∀ f i, i + f = 700 → ∀ t1 s g2, sfr D g g2 → cst g2 T D pu t1 (L ++ s) → cO T D pu L g e k (plp T P (opor T) f t1 s) → hwi (d + M + 22) zm_X3_anyOf k X 35 [(0, .ref 1001), (1, .int w), (2, .int (nI i))] g2 e := by
      intro f
      induction f with
      | zero =>
        intro i hi t1 s g2 f2 c2 H
        exact zh_X3_anyOf_35 (zbr_t (by rw [show (700 : Int32) = nI 700 from rfl]; exact nI_le (by omega) (by omega)) (H g2 f2 c2))
      | succ f ih =>
        intro i hi t1 s g2 f2 c2 H
        have hw1 := c2.1.2.1
        refine zh_X3_anyOf_35 (zbr_f (by rw [show (700 : Int32) = nI 700 from rfl]; exact nI_ge (by omega) (by omega)) ?_)
        have no : opor T t1 = none → k 1 g2 e := by
          intro h
          unfold plp at H
          rw [h] at H
          exact H g2 f2 c2
        have yes : ∀ o, opor T t1 = some o → hcv (d + M + 22) 70 [.ref 1001] g2 e (fun g4 e5 => hci (d + M + 22) 84 [.ref 1001, .int w] g4 e5 (fun x8 g6 e7 => zbr (x8 = 0) (k 0 g6 e7) (hD (g6.2.2 1001 7) ∧ hcv (d + M + 22) 42 [.ref (g6.2.2 1001 7), .int (cC o)] g6 e7 (fun g10 e11 => hwi (d + M + 22) zm_X3_anyOf k X 35 [(0, .ref 1001), (1, .int w), (2, .int (nI i + 1))] g10 e11) X)) X) X := by
          intro o ho
          have o3 := (op_or T t1 o ho).2.2
          have lt := hw1.2.2.1 o3
          unfold plp at H
          rw [ho] at H
          refine c_nextS c2.1 (fun g3 f3 b3 => hP d _ g3 _ (L ++ s) (cst_nx c2 b3) ?_)
          have gd := gP _ (nx_w hw1).1
          have H : cO T D pu L g e k (match P (tkn T t1.2.2.1) with | .inl q => plp T P (opor T) f q.1 (s ++ (q.2 ++ [o])) | .inr e => .inr e) := H
          cases hr : P (tkn T t1.2.2.1) with
          | inr ee =>
            rw [hr] at H
            exact fun g4 f4 c4 => zbr_t rfl (H g4 ((f2.trans f3).trans f4) c4)
          | inl r2 =>
            rw [hr] at H gd
            intro g4 f4 c4
            have n2 := (nx_w hw1).2
            have l4 := cst_len c4
            have := c2.2
            have := gd.2.1
            have lb : (L ++ s).length + 1 + r2.2.length ≤ r2.1.2.1 := by omega
            refine zbr_f (by decide) ?_
            rw [c4.1.2.2.1.2]
            refine ⟨hc.1.2.2.1.1, c_addStep c4.1 (by rw [List.length_append]; omega) (fun g5 f5 b5 => ?_)⟩
            rw [nI_1]
            exact ih (i + 1) (by omega) r2.1 _ g5 (((f2.trans f3).trans f4).trans f5) (cst_op (g1 := g) b5 lb) H
        refine c_wordS (p := 14) c2.1 (by decide) ?_
        cases q : isW T t1 (htx 7) with
        | false => exact zbr_t rfl (no (by unfold opor; rw [if_neg (by rw [q]; decide)]))
        | true => exact zbr_f (by decide) (yes (3, 0) (by unfold opor; rw [if_pos q]))
    exact main 700 0 (by omega) r.1 r.2 g1 f1 c1 H
theorem c_anyP (hD' : hD D) : ∀ r, r ≤ 6 → cPr T D pu e X 82 (nI (6 - r)) (7 * r) 16 (pany T pu r)
  | 0, _ => by
    intro d k g t L hc H
    have k2 := hc.1.1.2.1
    have w4 := hc.1.2.1.2.2.2.1
    have H : ∀ g', sfr D g g' → cfl g' (if pbeg T t = true then 2 else 1) t.2.1 → k 0 g' e := H
    unfold pbeg at H
    refine zh_X3_anyOf (zbr_f (by decide) (zh_X3_mayBegin ?_))
    rw [k2]
    have y : (if (decide (t.1 = 2) || (decide (t.1 = 1) || isC T t 40)) = true then 2 else 1) = 2 → hci (d + 7 * 0 + 15) 74 [.ref 1001, .int 2] g e (fun x12 g10 e11 => (x12 = 0 ∨ x12 = 1) ∧ k x12 g10 e11) X := by
      intro q
      rw [q] at H
      exact c_failS (c := 2) hc.1 (fun g' f' c' => ⟨.inl rfl, H g' f' c'⟩)
    by_cases c2 : t.1 = 2
    · exact zbr_t (by rw [c2]; rfl) (zbr_f (by decide) (y (by rw [decide_eq_true c2]; rfl)))
    · refine zbr_f (fun z => c2 ((nI_eq (b := 2) (by omega) (by omega)).mp z)) ?_
      by_cases c3 : t.1 = 1
      · exact zbr_t (by rw [c3]; rfl) (zbr_f (by decide) (y (by rw [decide_eq_true c3, Bool.true_or, Bool.or_true]; rfl)))
      · refine zbr_f (fun z => c3 ((nI_eq (b := 1) (by omega) (by omega)).mp z)) (c_signS (c := 40) hc.1 (by omega) ?_)
        cases q : isC T t 40 with
        | true => exact zbr_f (by decide) (zbr_f (by decide) (y (by rw [q, Bool.or_true, Bool.or_true]; rfl)))
        | false =>
          rw [decide_eq_false c2, decide_eq_false c3, q] at H
          exact zbr_t rfl (zbr_t rfl (c_failS (c := 1) hc.1 (fun g' f' c' => ⟨.inl rfl, H g' f' c'⟩)))
  | r + 1, hr => by
    have ih := c_anyP hD' r (by omega)
    rw [show nI (6 - r) = nI (6 - (r + 1)) + 1 by rw [nI_1]; congr 1; omega] at ih
    have lim : ∀ t, wtk T t → pgd T t (5 * 6 + 1) (pany T pu r t) := by
      intro t hw
      have := pany_gd (pu := pu) r t hw
      cases hq : pany T pu r t with
      | inl q => rw [hq] at this; exact ⟨this.1, this.2.1, pst_le (by omega) this.2.2⟩
      | inr q => rw [hq] at this; exact this
    have h0 := ppart_gd (T := T) (pu := pu) (A := pany T pu r) (lim := 5 * r + 1) (by omega) (pany_gd r)
    have h1 := pbin_gd h0 (op_mul T)
    have h2 := pbin_gd h1 (op_sum T)
    have h3 := pcmp_gd h2 (op_cmp T)
    have h4 := pneg_gd h3
    have h5 := pbin_gd h4 (op_and T)
    have p := c_anyOfP (nI_lt (b := 6) (by omega) (by omega)) (c_allOfP (c_negP (c_cmpP (c_sumP (c_productP (c_partP ih lim) h0) h1) h2) h3) h4) h5
    intro d k g t L hc H
    have := p d k g t L hc H
    rw [show d + 7 * r + 23 = d + 7 * (r + 1) + 16 by omega] at this
    exact this
end
