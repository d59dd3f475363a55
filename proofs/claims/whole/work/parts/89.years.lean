/-! YEARS in the class -/
def syr (F : (Nat → sZ) → Int32 → (Nat → sZ) × Int32) (x : sX) : Nat → Nat → (Nat → sZ) → Int32 → Int32 → (Nat → sZ) × Int32
  | 0, _, zs, _, b => (zs, b)
  | m + 1, t, zs, S, b => syr F x m (t + 1) (xz x t (F zs S).1) (F zs S).2 (b + xtb x t (F zs S).1)
def syv (x : sX) (r : (Nat → sZ) × Int32) (w : Nat) : Int32 := if w = 0 then r.2 else if w = 1 then xsum (fun i => jbc (r.1 i).2.2.2.2.1) x.1 else xsum (fun i => ssum (r.1 i) (r.1 i).1) x.1
def o_years (F : (Nat → sZ) → Int32 → (Nat → sZ) × Int32) (x : sX) (S n w : Int32) : rs := if iszb 3 w then (if isrb 0 60 n then .inl (syv x (syr F x n.toNatClampNeg x.2.2.2.2.2 x.2.1 S 0) w.toNatClampNeg) else .inr 0) else .inr 1
section
variable {d : Nat} {k : Int32 → hG → hE → Prop} {kv : hG → hE → Prop} {X : Nat → hG → hE → Prop} {g : hG} {e : hE} {D : Nat} {x : sX} {zs : Nat → sZ}
theorem c_passAllB (hc : cdr g D x) {zs : Nat → sZ} (ht : tct x g zs) {n : Nat} (hn : n ≤ 1000) (H : ∀ g', qf D g g' → tct x g' (xz x (x.2.2.2.2.2 + n) zs) → g'.1 1045 = g.1 1045 → k (xtb x (x.2.2.2.2.2 + n) zs) g' e) : hci (d + 6) 209 [.ref 1000, .int (nI n)] g e k X := by
  have h4 := hc.2.1.2
  have hl := hD_lt hc.1.1
  refine zh_X7_passAll ?_
  have : ∀ i, i ≤ x.1 → ∀ g1, qf D g g1 → g1.1 1045 = g.1 1045 → (∀ j, j < x.1 → ct x.2.2.2.1 g1 (1038 + j) (if j < i then xz x (x.2.2.2.2.2 + n) zs j else zs j)) → hwi (d + 5) zm_X7_passAll k X 4 [(0, .ref 1000), (1, .int (nI n)), (2, .int (xsum (fun i => jbc (xd x (x.2.2.2.2.2 + n) (zs i)).2.1) i)), (3, .int (nI i))] g1 e := by
    refine hdown ?_ ?_
    · intro g1 q1 s1 h1
      have hc1 := cdr_qf q1 hc
      refine zh_X7_passAll_4 ?_
      rw [hc1.1.2]
      refine ⟨hc1.1.1, zh_X2_zipCount hc1.1.1 (zbr_t (by rw [hc1.2.1.1]; exact nI_le (Nat.le_refl _) (by omega)) (H g1 q1 (fun j hj => ?_) s1))⟩
      have := h1 j hj
      rw [if_pos hj] at this
      exact this
    · intro i hi W g1 q1 s1 h1
      have hc1 := cdr_qf q1 hc
      refine zh_X7_passAll_4 ?_
      rw [hc1.1.2]
      refine ⟨hc1.1.1, zh_X2_zipCount hc1.1.1 (zbr_f (by rw [hc1.2.1.1]; exact nI_ge hi (by omega)) (c_trialAt (by omega) ⟨hT_trial (by omega), ?_⟩))⟩
      have c1 := h1 i hi
      rw [if_neg (by omega)] at c1
      refine c_passDay hc1 (by omega) c1 hn (fun g2 p2 c2 _ => c_bitCount ?_)
      rw [nI_1]
      refine W g2 (q1.trans (qf_pf (by omega) p2)) ((p2.1 1045 (by omega) (by omega) (by omega) (by omega)).trans s1) (fun j hj => ?_)
      by_cases c : j = i
      · subst c
        rw [if_pos (by omega)]
        exact c2
      · have := h1 j hj
        have e2 : (if j < i + 1 then xz x (x.2.2.2.2.2 + n) zs j else zs j) = (if j < i then xz x (x.2.2.2.2.2 + n) zs j else zs j) := by
          by_cases q : j < i
          · rw [if_pos q, if_pos (by omega)]
          · rw [if_neg q, if_neg (by omega)]
        rw [e2]
        exact ct_pf p2 (by omega) (by omega) (by omega) (by omega) this
  exact this 0 (Nat.zero_le _) g qf.refl rfl (fun j hj => by rw [if_neg (by omega)]; exact ht j hj)
theorem cq_yearsG {F : (Nat → sZ) → Int32 → (Nat → sZ) × Int32} (hF : ∀ (d : Nat) (g : hG) (zs : Nat → sZ) (kv : hG → hE → Prop), cdr g D x → tct x g zs → (∀ g', qf D g g' → tct x g' (F zs (g.1 1045 0)).1 → g'.1 1045 0 = (F zs (g.1 1045 0)).2 → kv g' e) → hcv (d + 5) 198 [.ref 1000] g e kv X) (hc : cdr g D x) (hr : hrm e) {S n w : Int32} (H : ∀ g', qf D g g' → oc (o_years F x S n w) k X g' e) : hci (d + 8) 197 [.ref 1000, .int S, .int n, .int w] g e k X := by
  have h4 := hc.2.1.2
  have hD' := hc.1.1
  refine zh_X7_years (c_checkWhat hr (n := 3) (by omega) (fun w hw hw' => ?_) (fun h => oc_r (H g qf.refl) (by unfold o_years; rw [iszb_f (n := 3) (by omega) h]; rfl)))
  subst hw'
  refine c_checkRange hr (a := 0) (b := 60) (by omega) (by omega) (fun m _ hm hn => ?_) (fun h => oc_r (H g qf.refl) (by unfold o_years; rw [iszb_t (n := 3) (by omega) hw, isrb_f (by omega) (by omega) h]; rfl))
  subst hn
  have hv : o_years F x S (nI m) (nI w) = .inl (syv x (syr F x m x.2.2.2.2.2 x.2.1 S 0) w) := by
    unfold o_years
    rw [iszb_t (n := 3) (by omega) hw, isrb_t (by omega) (by omega) hm, nI_clamp (by omega), nI_clamp (by omega)]
    rfl
  refine c_tryAll hc hr (fun g1 q1 t1 => zh_X1_take ?_)
  have q2 : qf D g (sI g1 1045 0 S) := q1.trans (qf_45 hD')
  have t2 : tct x (sI g1 1045 0 S) x.2.1 := tct_45 h4 t1
  have v2 : (sI g1 1045 0 S).1 1045 0 = S := by rw [sI_at, upd_at]
  generalize sI g1 1045 0 S = g2 at *
  obtain ⟨R, hR⟩ : ∃ R, R = syr F x m x.2.2.2.2.2 x.2.1 S 0 := ⟨_, rfl⟩
  rw [← hR] at hv
  have : ∀ l j, j + l = m → ∀ (zs : Nat → sZ) (s b : Int32) (g1 : hG), qf D g g1 → tct x g1 zs → g1.1 1045 0 = s → syr F x l (x.2.2.2.2.2 + j) zs s b = R → hwi (d + 7) zm_X7_years k X 30 [(0, .ref 1000), (2, .int (nI m)), (3, .int (nI w)), (4, .int b), (5, .int (nI j))] g1 e := by
    intro l
    induction l with
    | zero =>
      intro j hj zs s b g1 q1 t1 v1 h
      refine zh_X7_years_30 (zbr_t (nI_le (by omega) (by omega)) ?_)
      have hc1 := cdr_qf q1 hc
      have fin := oc_l (H g1 q1) hv
      rw [← h] at fin
      refine hdown (W := fun i => hwi (d + 7) zm_X7_years k X 66 [(0, .ref 1000), (3, .int (nI w)), (4, .int b), (5, .int (xsum (fun i => jbc (zs i).2.2.2.2.1) i)), (6, .int (xsum (fun i => ssum (zs i) (zs i).1) i)), (7, .int (nI i))] g1 e) (n := x.1) ?_ ?_ 0 (Nat.zero_le _)
      · refine zh_X7_years_66 ?_
        rw [hc1.1.2]
        refine ⟨hD', zh_X2_zipCount hD' (zbr_t (by rw [hc1.2.1.1]; exact nI_le (Nat.le_refl _) (by omega)) ⟨fun c => ?_, fun c => ⟨fun c2 => ?_, fun c2 => ?_⟩⟩)⟩
        · unfold syv at fin
          rw [if_pos ((nI_eq (b := 0) (by omega) (by omega)).mp c)] at fin
          exact fin
        · unfold syv at fin
          rw [if_neg (fun z => c (by rw [z]; rfl)), if_pos ((nI_eq (b := 1) (by omega) (by omega)).mp c2)] at fin
          exact fin
        · unfold syv at fin
          rw [if_neg (fun z => c (by rw [z]; rfl)), if_neg (fun z => c2 (by rw [z]; rfl))] at fin
          exact fin
      · intro i hi W
        rw [nI_succ] at W
        have ci := t1 i hi
        obtain ⟨n1, n2⟩ := ct_n ci
        have hT := hT_trial (show i < 4 by omega)
        refine zh_X7_years_66 ?_
        rw [hc1.1.2]
        refine ⟨hD', zh_X2_zipCount hD' (zbr_f (by rw [hc1.2.1.1]; exact nI_ge hi (by omega)) (c_trialAt (by omega) ⟨hT, c_closedCount hT (c_trialAt (by omega) ⟨hT, c_gripSum hT n1 n2 ?_⟩)⟩))⟩
        rw [ci.1.2.2.2.2.1, zrel_sum ci.1 _ n2]
        exact W
    | succ l ih =>
      intro j hj zs s b g1 q1 t1 v1 h
      have hc1 := cdr_qf q1 hc
      refine zh_X7_years_30 (zbr_f (nI_ge (by omega) (by omega)) (hF _ g1 zs _ hc1 t1 (fun g2 q2 t2 v2 => ?_)))
      rw [v1] at t2 v2
      refine c_passAllB (cdr_qf (q1.trans q2) hc) t2 (by omega) (fun g3 q3 t3 s3 => ?_)
      rw [nI_1]
      exact ih (j + 1) (by omega) _ _ _ g3 ((q1.trans q2).trans q3) t3 (by rw [s3]; exact v2) h
  exact this m 0 (by omega) x.2.1 S 0 g2 q2 t2 v2 hR.symm
theorem cq_years (hc : cdr g D x) (hr : hrm e) {S n w : Int32} (H : ∀ g', qf D g g' → oc (o_years (sch x.1) x S n w) k X g' e) : hci (d + 8) 197 [.ref 1000, .int S, .int n, .int w] g e k X :=
  cq_yearsG (F := sch x.1) (fun _ _ _ _ hc ht h => c_drawChange hc ht h) hc hr H
end
