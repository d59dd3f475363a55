/-! swap, undo, note, forget, image, restore, fault in the class -/
def r_undo (s : sS) : rs × sS := if s.2.1.1.length = 0 then (.inl (-1), s) else (.inl (nI (s.2.1.1.length - 1)), (xpg s.1 (s.2.1.1.getD (s.2.1.1.length - 1) (xnow s.1)), (s.2.1.1.take (s.2.1.1.length - 1), s.2.1.2), s.2.2))
def r_note (s : sS) (z p n c : Int32) : rs × sS := if iszb s.1.1 z && iszb (s.1.2.1 z.toNatClampNeg).1 p then (if isrb 0 20 n = true ∧ s.2.1.2.1.length < 8 then (.inl (nI (s.2.1.2.1.length + 1)), (s.1, (s.2.1.1, s.2.1.2.1 ++ [(z.toNatClampNeg, p.toNatClampNeg, n.toNatClampNeg, if c = 0 then 0 else 1)], s.2.1.2.2), s.2.2)) else (.inl (-1), s_ref s 2)) else (.inr 1, s)
def s_forget (s : sS) : sS := (s.1, (s.2.1.1, [], s.2.1.2.2), s.2.2)
def s_image (s : sS) : sS := (s.1, s.2.1, some (xnow s.1, s.2.1), s.2.2.2)
def r_restore (s : sS) : rs × sS := match s.2.2.1 with
  | none => (.inl 0, s)
  | some r => (.inl 1, (xpg s.1 r.1, r.2, s.2.2))
section
variable {d : Nat} {k : Int32 → hG → hE → Prop} {kv : hG → hE → Prop} {X : Nat → hG → hE → Prop} {g : hG} {e : hE} {D : Nat} {x : sX} {s : sS}
theorem ctz_swp {pl : List tk} {y y' : cZ} {r r' : sZ} (h : ctz pl y r) (h' : ctz pl y' r') (e : r.1 = r'.1) : ctz pl (zslide (y.1, y.2.1, y'.2.2.1, y.2.2.2) r.1 0) (sswp r r') := by
  refine ⟨⟨h.1.1, h.1.2.1, h'.1.2.2.1, h.1.2.2.2.1, ?_, rfl⟩, sok_swp h.2.1 h'.2.1 e, hv_0 _ _⟩
  show zhb _ _ &&& ((1 <<< ((0 : Int32) &&& 31)) - 1) = 0
  rw [show ((1 : Int32) <<< ((0 : Int32) &&& 31)) - 1 = 0 by decide]
  exact Int32.and_zero
theorem cs_swap (hc : RC g D s) (hr : hrm e) {z y : Int32} (H : ∀ g', cfr g g' → RC g' D (r_swap s z y).2 → oc (r_swap s z y).1 k X g' e) : hci (d + 9) 159 [.ref 1000, .int z, .int y] g e k X := by
  have c0 := hc.1
  have hD' := c0.1.1
  have h4 := c0.2.1.2
  have out : (iszb s.1.1 z && iszb s.1.1 y) = false → X 1 g (hth e) := by
    intro q
    have e1 : r_swap s z y = (.inr 1, s) := by unfold r_swap; rw [q]; rfl
    rw [e1] at H
    exact H g cfr.refl hc
  refine zh_X7_swap (c_theZip c0 hr (fun i hi hv => ⟨hT_zip hD' (by omega), ?_⟩) (fun q => out (by rw [iszb_f (by omega) q]; rfl)))
  refine c_theZip c0 hr (fun j hj hw => ⟨hT_zip hD' (by omega), ?_⟩) (fun q => out (by rw [iszb_f (z := y) (by omega) q, Bool.and_false]))
  subst hv
  subst hw
  have hT1 := hT_zip (D := D) hD' (show i < 4 by omega)
  have hT2 := hT_zip (D := D) hD' (show j < 4 by omega)
  obtain ⟨n1, n2⟩ := ct_n (c0.2.2.1 i hi)
  obtain ⟨m1, m2⟩ := ct_n (c0.2.2.1 j hj)
  have ei : (nI i).toNatClampNeg = i := nI_clamp (by omega)
  have ej : (nI j).toNatClampNeg = j := nI_clamp (by omega)
  unfold r_swap at H
  rw [iszb_t (by omega) hi, iszb_t (by omega) hj, ei, ej, Bool.and_self, if_pos rfl] at H
  have bad : (nI i = nI j ∨ ¬ (s.1.2.1 i).1 = (s.1.2.1 j).1) → hcv (d + 8) 20 [.ref 1027, .int 1] g e (fun g1 e2 => k 0 g1 e2) X := by
    intro q
    rw [if_pos q] at H
    exact c_refuse (j := 1) hc (by omega) (fun g' f' r' => H g' f' r')
  refine ⟨fun c => bad (.inl c), fun c => c_size hT1 (c_size hT2 ?_)⟩
  rw [n1, m1]
  refine ⟨fun c2 => ?_, fun c2 => bad (.inr (fun q => c2 (by rw [q])))⟩
  have sz : (s.1.2.1 i).1 = (s.1.2.1 j).1 := (nI_eq (by omega) (by omega)).mp c2
  have ne : ¬ i = j := fun q => c (by rw [q])
  rw [if_neg (fun q => q.elim c (fun q => q sz))] at H
  rw [c0.1.2]
  refine ⟨hD', c_beginAct c0 hc.2.2.1.1 (fun g1 f1 a1 => ?_)⟩
  have c1 := cdr_bk c0 f1
  have ci := c1.2.2.1 i hi
  have cj := c1.2.2.1 j hj
  refine zh_X6_swapLeft hT1 hT2 ?_
  rw [s2, s2]
  obtain ⟨A, hA⟩ : ∃ A, A = zg g1 (D + 2 + i) := ⟨_, rfl⟩
  obtain ⟨B, hB⟩ : ∃ B, B = zg g1 (D + 2 + j) := ⟨_, rfl⟩
  have eA : g1.2.1 (D + 2 + i) 2 = A.2.2.1 := by rw [hA]; rfl
  have eB : g1.2.1 (D + 2 + j) 2 = B.2.2.1 := by rw [hB]; rfl
  have cA : ctz s.1.2.2.2.1 A (s.1.2.1 i) := by rw [hA]; exact ci
  have cB : ctz s.1.2.2.2.1 B (s.1.2.1 j) := by rw [hB]; exact cj
  rw [eA, eB, zg_off _ _ (show ¬ D + 2 + j = D + 2 + i by omega), ← hA, ← hB]
  refine c_slideTo hT1 (n := (s.1.2.1 i).1) ?_ n2 (c_slideTo hT2 (n := (s.1.2.1 j).1) ?_ m2 ?_)
  · rw [zg_off _ _ (by omega), zg_zp]; exact cA.1.1
  · rw [zg_off _ _ (by omega), zg_zp]; exact cB.1.1
  · have g2 : ∃ g2, g2 = zp (zp (zp (zp g1 (D + 2 + i) (A.1, A.2.1, B.2.2.1, A.2.2.2)) (D + 2 + j) (B.1, B.2.1, A.2.2.1, B.2.2.2)) (D + 2 + i) (zslide (zg (zp (zp g1 (D + 2 + i) (A.1, A.2.1, B.2.2.1, A.2.2.2)) (D + 2 + j) (B.1, B.2.1, A.2.2.1, B.2.2.2)) (D + 2 + i)) (s.1.2.1 i).1 0)) (D + 2 + j) (zslide (zg (zp (zp (zp g1 (D + 2 + i) (A.1, A.2.1, B.2.2.1, A.2.2.2)) (D + 2 + j) (B.1, B.2.1, A.2.2.1, B.2.2.2)) (D + 2 + i) (zslide (zg (zp (zp g1 (D + 2 + i) (A.1, A.2.1, B.2.2.1, A.2.2.2)) (D + 2 + j) (B.1, B.2.1, A.2.2.1, B.2.2.2)) (D + 2 + i)) (s.1.2.1 i).1 0)) (D + 2 + j)) (s.1.2.1 j).1 0) := ⟨_, rfl⟩
    obtain ⟨g2, hg2⟩ := g2
    rw [← hg2]
    have zi : zg g2 (D + 2 + i) = zslide (A.1, A.2.1, B.2.2.1, A.2.2.2) (s.1.2.1 i).1 0 := by
      rw [hg2, zg_off _ _ (by omega), zg_zp, zg_off _ _ (by omega), zg_zp]
    have zj : zg g2 (D + 2 + j) = zslide (B.1, B.2.1, A.2.2.1, B.2.2.2) (s.1.2.1 j).1 0 := by
      rw [hg2, zg_zp, zg_off _ _ (by omega), zg_zp]
    have zo : ∀ w, w < 4 → ¬ w = i → ¬ w = j → zg g2 (D + 2 + w) = zg g1 (D + 2 + w) := by
      intro w _ h1 h2
      rw [hg2, zg_off _ _ (by omega), zg_off _ _ (by omega), zg_off _ _ (by omega), zg_off _ _ (by omega)]
    have f2 : adf D g1 g2 := by
      rw [hg2]
      exact ((adf_zp (by omega) _).trans (adf_zp (by omega) _)).trans ((adf_zp (by omega) _).trans (adf_zp (by omega) _))
    have d2 : g2.1 D 8 = g1.1 D 8 := by
      rw [hg2]
      show (va_up _ _ _ : Nat → Nat → Int32) D 8 = _
      rw [va_up_off _ _ (by omega)]
      show (va_up _ _ _ : Nat → Nat → Int32) D 8 = _
      rw [va_up_off _ _ (by omega)]
      show (va_up _ _ _ : Nat → Nat → Int32) D 8 = _
      rw [va_up_off _ _ (by omega)]
      show (va_up _ _ _ : Nat → Nat → Int32) D 8 = _
      rw [va_up_off _ _ (by omega)]
    refine H g2 ((cfr_bk f1).trans (cfr_ad hD' f2)) (RC_act hc f1 a1 f2 (cdr_ad c1 f2 (fun w hw => ?_) (by rw [d2]; exact c1.2.2.2.2.2.1) c0.2.2.2.2.2.2) ⟨fun w hw => ?_, c0.2.2.2.2.2.2⟩)
    · show ct _ g2 _ (va_up (va_up s.1.2.1 i _) j _ w)
      by_cases q : w = j
      · subst q
        rw [va_up_at]
        unfold ct
        rw [zj]
        exact ctz_swp cB cA sz.symm
      · rw [va_up_off _ _ q]
        by_cases q2 : w = i
        · subst q2
          rw [va_up_at]
          unfold ct
          rw [zi]
          exact ctz_swp cA cB sz
        · rw [va_up_off _ _ q2]
          exact ct_cg (zo w (by omega) q2 q) (c1.2.2.1 w hw)
    · show sok (va_up (va_up s.1.2.1 i _) j _ w) ∧ (va_up (va_up s.1.2.1 i _) j _ w).1 = _ ∧ (va_up (va_up s.1.2.1 i _) j _ w).2.1 = _
      by_cases q : w = j
      · subst q
        rw [va_up_at]
        exact ⟨sok_swp cB.2.1 cA.2.1 sz.symm, rfl, rfl⟩
      · rw [va_up_off _ _ q]
        by_cases q2 : w = i
        · subst q2
          rw [va_up_at]
          exact ⟨sok_swp cA.2.1 cB.2.1 sz, rfl, rfl⟩
        · rw [va_up_off _ _ q2]
          exact (pg_now c0).1 w hw
theorem RC_bk {g' : hG} {b : sB} {o : Option (sP × sB)} {P : sP} (hc : RC g D s) (f : adf D g g') (c2 : cdr g' D (xpg s.1 P)) (hp : pgok s.1 P) (hb : cbk g' 1027 s.1 b) (hk : ckp g' s.1 o) : RC g' D (xpg s.1 P, b, o, s.2.2.2) := by
  obtain ⟨h1, h2, h3, h4, h5, h6⟩ := hc
  have hl := hD_lt h1.1.1
  have st := stt_pg hp
  have q : ∀ b, b < 1003 → g'.1 b = g.1 b := fun b hb => f.1 b (by omega) (by omega) (by omega) (by omega)
  exact ⟨c2, by rw [f.2.2.2]; exact h2, cbk_st st hb, ckp_st st hk, ctp_cg (by rw [q 1001 (by omega)]) (q _ (by omega)) h5, by rw [q 1000 (by omega)]; exact h6⟩
theorem cs_undo (hc : RC g D s) (H : ∀ g', cfr g g' → RC g' D (r_undo s).2 → oc (r_undo s).1 k X g' e) : hci (d + 9) 160 [.ref 1000] g e k X := by
  have c0 := hc.1
  have hD' := c0.1.1
  have hl := hD_lt hD'
  obtain ⟨a1, a2, a3⟩ := hc.2.2.1.1
  have hB' : hB 1027 := Or.inl rfl
  refine zh_X7_undo ?_
  rw [c0.1.2]
  refine ⟨hD', zh_X0_undoAct hB' hD' ?_⟩
  rw [a1]
  unfold r_undo at H
  obtain ⟨as, has⟩ : ∃ as, as = s.2.1.1 := ⟨_, rfl⟩
  rw [← has] at a1 a2 a3 H ⊢
  by_cases c : as.length = 0
  · rw [if_pos c] at H
    refine zbr_f (by rw [c]; decide) (zbr_t rfl ?_)
    exact H g cfr.refl hc
  · rw [if_neg c] at H
    refine zbr_t (nI_lt (a := 0) (by omega) (by omega)) ?_
    have hlt : as.length - 1 < as.length := by omega
    have gl : as[as.length - 1]? = some as[as.length - 1] := List.getElem?_eq_getElem hlt
    rw [List.getD_eq_getElem?_getD, gl] at H
    have cp := a3 _ _ gl
    generalize as[as.length - 1] = P at *
    have q : ∀ b, ¬ b = 1027 → (sI g 1027 1 (nI as.length - 1)).1 b = g.1 b := fun b hb => sI_off _ hb
    have c1 : cdr (sI g 1027 1 (nI as.length - 1)) D s.1 := cdr_cg (g := g) (fun b hb => q b (by omega)) (fun b hb => rfl) rfl c0
    rw [sI_at, upd_at, nI_sub1 (by omega), show (13 : Int32) = nI 13 from rfl, pk_mul, Nat.mul_comm]
    rw [nI_sub1 (by omega)] at q c1
    have k3 : (sI g 1027 1 (nI (as.length - 1))).1 1027 3 = g.1 1027 3 := by rw [sI_at, upd_off _ _ (by omega)]
    have k1 : (sI g 1027 1 (nI (as.length - 1))).1 1027 1 = nI (as.length - 1) := by rw [sI_at, upd_at]
    have kJ : (sI g 1027 1 (nI (as.length - 1))).2 = g.2 := rfl
    have fA : cfr g (sI g 1027 1 (nI (as.length - 1))) := fun b hb => ⟨q b (by omega), rfl, rfl⟩
    generalize sI g 1027 1 (nI (as.length - 1)) = g1 at *
    refine c_read (P := P) c1 (R := 1028) (n := 520) rfl (by omega) (by omega) (by omega) (by rw [kJ]; exact cp) (fun g2 f2 c2 => zbr_f (by decide) (zh_X0_actCount hB' ?_))
    have r : ∀ b, (1027 ≤ b ∧ b < 1046) ∨ b < 1003 → g2.1 b = g1.1 b := fun b hb => f2.1 b (by omega) (by omega)
    have rJ : ∀ b, 1027 ≤ b → g2.2.1 b = g.2.1 b := fun b hb => by rw [f2.2.2.1 b (by omega), kJ]
    rw [r 1027 (by omega), k1]
    refine H g2 (fA.trans (cfr_ad hD' (adf_rd f2))) ?_
    obtain ⟨h1, h2, h3, h4, h5, h6⟩ := hc
    have st := stt_pg cp.1
    refine ⟨c2, by rw [f2.2.2.2, kJ]; exact h2, cbk_st st ⟨⟨?_, ?_, fun i Q hi => ?_⟩, ⟨?_, h3.2.1.2⟩, fun j hj => ?_⟩, ckp_st st (ckp_cg (by rw [r 1000 (by omega), q 1000 (by omega)]) (by rw [r 1032 (by omega), q 1032 (by omega)]) (rJ _ (by omega)) (by rw [r 1034 (by omega), q 1034 (by omega)]) (by rw [r 1035 (by omega), q 1035 (by omega)]) (rJ _ (by omega)) h4), ctp_cg (by rw [r 1001 (by omega), q 1001 (by omega)]) (by rw [r 1002 (by omega), q 1002 (by omega)]) h5, by rw [r 1000 (by omega), q 1000 (by omega)]; exact h6⟩
    · rw [r 1027 (by omega), k1, List.length_take, Nat.min_eq_left (by omega)]
    · rw [List.length_take]; omega
    · rw [rJ (1027 + 1) (by omega)]
      have hi' : i < as.length - 1 := by
        have := (List.getElem?_eq_some_iff.mp hi).1
        rw [List.length_take] at this
        omega
      rw [List.getElem?_take_of_lt hi'] at hi
      exact a3 i Q hi
    · unfold cnt
      rw [r 1027 (by omega), k3, r (1027 + 2) (by omega), q (1027 + 2) (by omega)]
      exact h3.2.1.1
    · rw [r (1027 + 3) (by omega), q (1027 + 3) (by omega)]
      exact h3.2.2 j hj
theorem cs_note (hc : RC g D s) (hr : hrm e) {z p n c : Int32} (H : ∀ g', cfr g g' → RC g' D (r_note s z p n c).2 → oc (r_note s z p n c).1 k X g' e) : hci (d + 9) 182 [.ref 1000, .int z, .int p, .int n, .int c] g e k X := by
  have c0 := hc.1
  have hD' := c0.1.1
  have hl := hD_lt hD'
  have h4 := c0.2.1.2
  have out : (iszb s.1.1 z && iszb (s.1.2.1 z.toNatClampNeg).1 p) = false → X 1 g (hth e) := by
    intro q
    have e1 : r_note s z p n c = (.inr 1, s) := by unfold r_note; rw [q]; rfl
    rw [e1] at H
    exact H g cfr.refl hc
  refine zh_X7_note (c_theZip c0 hr (fun i hi hv => ⟨hT_zip hD' (by omega), ?_⟩) (fun q => out (by rw [iszb_f (by omega) q]; rfl)))
  subst hv
  have hT1 := hT_zip (D := D) hD' (show i < 4 by omega)
  obtain ⟨n1, n2⟩ := ct_n (c0.2.2.1 i hi)
  have ei : (nI i).toNatClampNeg = i := nI_clamp (by omega)
  refine c_checkPlace hT1 n1 n2 hr (fun j hj hp => ?_) (fun q => out (by rw [ei, iszb_f (n := (s.1.2.1 i).1) (by omega) q, Bool.and_false]))
  subst hp
  have ej : (nI j).toNatClampNeg = j := nI_clamp (by omega)
  obtain ⟨⟨t1, t2⟩, w1, w2⟩ := hc.2.2.1.2.1
  unfold r_note at H
  rw [ei, iszb_t (by omega) hi, iszb_t (by omega) hj, ej, Bool.and_self, if_pos rfl] at H
  have bad : ∀ g1 : hG, g1 = g → ¬ (isrb 0 20 n = true ∧ s.2.1.2.1.length < 8) → hcv (d + 8) 20 [.ref 1027, .int 2] g1 e (fun g1 e2 => k (-1) g1 e2) X := by
    rintro g1 rfl q
    rw [if_neg q] at H
    exact c_refuse (j := 2) hc (by omega) (fun g' f' r' => H g' f' r')
  refine ⟨fun q => bad g rfl (fun y => ?_), fun q => ⟨fun q2 => bad g rfl (fun y => ?_), fun q2 => ?_⟩⟩
  · rw [isrb_f (a := 0) (b := 20) (by omega) (by omega) (isr_not (by omega) (.inl q))] at y
    exact absurd y.1 (by decide)
  · rw [isrb_f (a := 0) (b := 20) (by omega) (by omega) (isr_not (by omega) (.inr (Int32.not_le.mpr q2)))] at y
    exact absurd y.1 (by decide)
  · rcases isr_or (a := 0) (b := 20) (by omega) (by omega) n with y | y | y
    case inr.inl => exact absurd y q
    case inr.inr => exact absurd (Int32.not_lt.mp q2) y.2
    obtain ⟨m, _, m2, rfl⟩ := y
    have hB' : hB 1027 := Or.inl rfl
    refine zh_X0_addNote hB' ?_
    rw [t1]
    refine zbr_f (nI_pos (by omega)) ?_
    by_cases c8 : s.2.1.2.1.length < 8
    · rw [if_pos ⟨isrb_t (by omega) (by omega) m2, c8⟩, nI_clamp (show m < 2 ^ 31 by omega)] at H
      have fin : ∀ f, f < 2 → (∀ g', cfr g g' → RC g' D (s.1, (s.2.1.1, s.2.1.2.1 ++ [(i, j, m, f)], s.2.1.2.2), s.2.2) → k (nI (s.2.1.2.1.length + 1)) g' e) → ∀ g2, g2 = sI g (1027 + 2) (nI s.2.1.2.1.length).toNatClampNeg ((((nI i <<< ((10 : Int32) &&& 31)) ||| (nI j <<< ((6 : Int32) &&& 31))) ||| (nI m <<< ((1 : Int32) &&& 31))) ||| nI f) → k ((sI g2 1027 3 ((g2.1 1027 3) + 1)).1 1027 3) (sI g2 1027 3 ((g2.1 1027 3) + 1)) e := by
        rintro f hf H g2 rfl
        rw [(nc_all i (by omega) j (by omega) m (by omega) f hf).2.2.2.2, nI_clamp (by omega), sI_off g (show ¬ 1027 = 1027 + 2 by decide), t1, nI_1, sI_at, upd_at]
        have q : ∀ b, ¬ b = 1027 → ¬ b = 1029 → (sI (sI g (1027 + 2) s.2.1.2.1.length (nI (i * 1024 + j * 64 + m * 2 + f))) 1027 3 (nI (s.2.1.2.1.length + 1))).1 b = g.1 b := fun b h1 h2 => by rw [sI_off _ h1, sI_off _ h2]
        refine H _ (fun b hb => ⟨q b (by omega) (by omega), rfl, rfl⟩) ?_
        obtain ⟨h1, h2, h3, h4', h5, h6⟩ := hc
        refine ⟨cdr_cg (g := g) (fun b hb => q b (by omega) (by omega)) (fun b hb => rfl) rfl h1, h2, ⟨?_, ⟨⟨?_, fun a w ha => ?_⟩, ?_, fun w hw => ?_⟩, fun a ha => ?_⟩, ckp_cg (by rw [q 1000 (by omega) (by omega)]) (q _ (by omega) (by omega)) rfl (q _ (by omega) (by omega)) (q _ (by omega) (by omega)) rfl h4', ctp_cg (by rw [q 1001 (by omega) (by omega)]) (q _ (by omega) (by omega)) h5, by rw [q 1000 (by omega) (by omega)]; exact h6⟩
        · rw [sI_at, upd_off _ _ (by omega), sI_off _ (by omega)]
          exact h3.1
        · rw [sI_at, upd_at, List.length_append]
          rfl
        · rw [sI_off _ (by omega), sI_at]
          by_cases ca : a = s.2.1.2.1.length
          · subst ca
            rw [List.getElem?_append_right (Nat.le_refl _), Nat.sub_self] at ha
            rw [upd_at, ← Option.some.inj ha]
            rfl
          · have hlt : a < s.2.1.2.1.length := by
              have := (List.getElem?_eq_some_iff.mp ha).1
              rw [List.length_append] at this
              have : a < s.2.1.2.1.length + 1 := this
              omega
            rw [List.getElem?_append_left hlt] at ha
            rw [upd_off _ _ ca]
            exact t2 a w ha
        · rw [List.length_append]
          show s.2.1.2.1.length + 1 ≤ 8
          omega
        · rcases List.mem_append.mp hw with hw | hw
          · exact w2 w hw
          · rw [List.mem_singleton.mp hw]
            exact ⟨hi, show j < 16 by omega, m2, show f ≤ 1 by omega⟩
        · rw [q (1027 + 3) (by omega) (by omega)]
          exact h3.2.2 a ha
      refine zbr_t (nI_lt c8 (by omega)) ⟨fun cc => ⟨nI_in c8 (by omega), fun g2 hg2 => zbr_f (by decide) (zh_X0_noteCount hB' ?_)⟩, fun cc => ⟨nI_in c8 (by omega), fun g2 hg2 => zbr_f (by decide) (zh_X0_noteCount hB' ?_)⟩⟩
      · rw [if_pos cc] at H
        exact fin 0 (by omega) H g2 hg2
      · rw [if_neg cc] at H
        exact fin 1 (by omega) H g2 hg2
    · refine zbr_f (nI_nlt (a := s.2.1.2.1.length) (b := 8) (by omega) (by omega)) (zbr_t rfl (bad g rfl (fun y => c8 y.2)))
theorem cs_forget (hc : RC g D s) (H : ∀ g', cfr g g' → RC g' D (s_forget s) → kv g' e) : hcv (d + 2) 190 [.ref 1000] g e kv X := by
  have hl := hD_lt hc.1.1.1
  have q : ∀ b, ¬ b = 1027 → (sI g 1027 3 0).1 b = g.1 b := fun b h1 => sI_off _ h1
  refine zh_X7_forget (zh_X0_dropNotes (Or.inl rfl) (H _ (fun b hb => ⟨q b (by omega), rfl, rfl⟩) ?_))
  obtain ⟨h1, h2, h3, h4, h5, h6⟩ := hc
  refine ⟨cdr_cg (g := g) (fun b hb => q b (by omega)) (fun b hb => rfl) rfl h1, h2, ⟨?_, ⟨⟨?_, fun a w ha => ?_⟩, Nat.zero_le _, fun w hw => ?_⟩, fun a ha => ?_⟩, ckp_cg (by rw [q 1000 (by omega)]) (q _ (by omega)) rfl (q _ (by omega)) (q _ (by omega)) rfl h4, ctp_cg (by rw [q 1001 (by omega)]) (q _ (by omega)) h5, by rw [q 1000 (by omega)]; exact h6⟩
  · rw [sI_at, upd_off _ _ (by omega)]; exact h3.1
  · rw [sI_at, upd_at]; rfl
  · cases ha
  · cases hw
  · rw [q (1027 + 3) (by omega)]; exact h3.2.2 a ha
/-- a book is copied -/
theorem c_copyAll {A B : Nat} (hA : hB A) (hB' : hB B) (H : ∀ g', (∀ b, ¬ (A ≤ b ∧ b ≤ A + 4) → g'.1 b = g.1 b ∧ g'.2.1 b = g.2.1 b) → g'.2.2 = g.2.2 → g'.1 A 1 = g.1 B 1 → g'.1 A 3 = g.1 B 3 → (∀ i, i < 520 → g'.2.1 (A + 1) i = g.2.1 (B + 1) i) → (∀ i, i < 8 → g'.1 (A + 2) i = g.1 (B + 2) i) → (∀ i, i < 3 → g'.1 (A + 3) i = g.1 (B + 3) i) → (∀ i, i < 13 → g'.2.1 (A + 4) i = g.2.1 (B + 4) i) → kv g' e) (hn : ¬ A = B) : hcv (d + 1) 29 [.ref A, .ref B] g e kv X := by
  have n5 : A + 5 ≤ B ∨ B + 5 ≤ A := by rcases hA with rfl | rfl <;> rcases hB' with rfl | rfl <;> omega
  refine zh_X0_copyAll hA hB' ⟨by unfold hcpin; decide, ?_⟩
  rintro g2 rfl
  refine ⟨by unfold hcpin; decide, ?_⟩
  rintro g4 rfl
  refine ⟨by unfold hcpin; decide, ?_⟩
  rintro g6 rfl
  refine ⟨by unfold hcpin; decide, ?_⟩
  rintro g8 rfl
  have z0 : (0 : Int32).toNatClampNeg = 0 := rfl
  have z520 : (nI 520).toNatClampNeg = 520 := rfl
  have z8 : (nI 8).toNatClampNeg = 8 := rfl
  have z3 : (nI 3).toNatClampNeg = 3 := rfl
  have z13 : (nI 13).toNatClampNeg = 13 := rfl
  rw [z0, z520, z8, z3, z13]
  refine H _ (fun b hb => ⟨?_, ?_⟩) rfl ?_ ?_ (fun i hi => ?_) (fun i hi => ?_) (fun i hi => ?_) (fun i hi => ?_)
  · show (aI _ _ _).1 b = _
    rw [aI_off _ _ (by omega), sI_off _ (by omega), aI_off _ _ (by omega), sI_off _ (by omega)]
    rfl
  · rw [aJ_off _ _ (by omega)]
    show (aJ g (A + 1) _).2.1 b = _
    rw [aJ_off _ _ (by omega)]
  · show (aI _ _ _).1 A 1 = _
    rw [aI_off _ _ (by omega), sI_at, upd_off _ _ (by omega), aI_off _ _ (by omega), sI_at, upd_at]
    rfl
  · show (aI _ _ _).1 A 3 = _
    rw [aI_off _ _ (by omega), sI_at, upd_at, aI_off _ _ (by omega), sI_off _ (by omega)]
    rfl
  · rw [aJ_off _ _ (by omega)]
    show (aJ g (A + 1) _).2.1 (A + 1) i = _
    rw [aJ1, pk_cpy_in (by omega) (by omega), Nat.zero_add, Nat.sub_zero]
  · show (aI _ _ _).1 (A + 2) i = _
    rw [aI_off _ _ (by omega), sI_off _ (by omega), aI1, pk_cpy_in (by omega) (by omega), Nat.zero_add, Nat.sub_zero, sI_off _ (by omega)]
    rfl
  · show (aI _ _ _).1 (A + 3) i = _
    rw [aI1, pk_cpy_in (by omega) (by omega), Nat.zero_add, Nat.sub_zero, sI_off _ (by omega), aI_off _ _ (by omega), sI_off _ (by omega)]
    rfl
  · rw [aJ1, pk_cpy_in (by omega) (by omega), Nat.zero_add, Nat.sub_zero]
    show (aJ g (A + 1) _).2.1 (B + 4) i = _
    rw [aJ_off _ _ (by omega)]
theorem cbk_copy {g' : hG} {A B : Nat} {b : sB} (h4 : x.1 ≤ 4) (h1 : g'.1 A 1 = g.1 B 1) (h3 : g'.1 A 3 = g.1 B 3) (hJ : ∀ i, i < 520 → g'.2.1 (A + 1) i = g.2.1 (B + 1) i) (hN : ∀ i, i < 8 → g'.1 (A + 2) i = g.1 (B + 2) i) (hR : ∀ i, i < 3 → g'.1 (A + 3) i = g.1 (B + 3) i) (hb : cbk g B x b) : cbk g' A x b := by
  obtain ⟨⟨a1, a2, a3⟩, ⟨⟨t1, t2⟩, w⟩, r⟩ := hb
  refine ⟨⟨by rw [h1]; exact a1, a2, fun i P hi => ?_⟩, ⟨⟨by rw [h3]; exact t1, fun i n hi => ?_⟩, w⟩, fun k hk => by rw [hR k hk]; exact r k hk⟩
  · have := (List.getElem?_eq_some_iff.mp hi).1
    exact cpg_cg (fun j hj => hJ _ (by omega)) h4 (a3 i P hi)
  · have := (List.getElem?_eq_some_iff.mp hi).1
    have := w.1
    rw [hN i (by omega)]
    exact t2 i n hi
theorem cs_image (hc : RC g D s) (H : ∀ g', cfr g g' → RC g' D (s_image s) → kv g' e) : hcv (d + 7) 199 [.ref 1000] g e kv X := by
  have c0 := hc.1
  have hD' := c0.1.1
  have hl := hD_lt hD'
  have h4 := c0.2.1.2
  refine zh_X7_image ?_
  rw [c0.1.2]
  refine ⟨hD', zh_X0_writeNow (Or.inl rfl) hD' (c_write c0 (R := 1031) (n := 13) (o := 0) rfl (by omega) (by omega) (by omega) (fun f pf of => c_copyAll (A := 1032) (B := 1027) (Or.inr rfl) (Or.inl rfl) (fun g' fo fR k1 k3 kJ kN kR kW => H _ (fun b hb => ?_) ?_) (by omega)))⟩
  · rw [sI_off _ (by omega)]
    refine ⟨(fo b (by omega)).1, ?_, ?_⟩
    · show g'.2.1 b = _
      rw [(fo b (by omega)).2, aJ_off _ _ (by omega)]
    · show g'.2.2 b = _
      rw [fR]; rfl
  · obtain ⟨h1, h2, h3, h5, h6, h7⟩ := hc
    have q : ∀ b, b < 1032 → ¬ b = 1000 → (sI g' 1000 5 1).1 b = g.1 b := fun b hb hn => by rw [sI_off _ hn, (fo b (by omega)).1]; rfl
    have q0 : ∀ k, ¬ k = 5 → (sI g' 1000 5 1).1 1000 k = g.1 1000 k := fun k hk => by rw [sI_at, upd_off _ _ hk, (fo 1000 (by omega)).1]; rfl
    have qJ : ∀ b, b < 1031 → (sI g' 1000 5 1).2.1 b = g.2.1 b := fun b hb => by
      show g'.2.1 b = _
      rw [(fo b (by omega)).2, aJ_off _ _ (by omega)]
    have q2 : ∀ b, ¬ b = 1000 → (sI g' 1000 5 1).1 b = g'.1 b := fun b hb => sI_off _ hb
    have b0 : cbk (aJ g 1031 f) 1027 s.1 s.2.1 := cbk_cg (g := g) rfl (aJ_off _ _ (by omega)) rfl rfl h3
    have b1 : cbk g' 1032 s.1 s.2.1 := cbk_copy h4 k1 k3 kJ kN kR b0
    refine ⟨cdr_cg (g := g) (fun b hb => q b (by omega) (by omega)) (fun b hb => qJ b (by omega)) ?_ h1, ?_, cbk_cg (q _ (by omega) (by omega)) (qJ _ (by omega)) (q _ (by omega) (by omega)) (q _ (by omega) (by omega)) h3, ⟨?_, cbk_cg (q2 _ (by omega)) rfl (q2 _ (by omega)) (q2 _ (by omega)) b1, ?_⟩, ctp_cg (by rw [q 1001 (by omega) (by omega)]) (q _ (by omega) (by omega)) h6, by rw [q0 1 (by omega)]; exact h7⟩
    · show g'.2.2 1000 2 = _
      rw [fR]; rfl
    · show g'.2.2 1001 7 = _
      rw [fR]; exact h2
    · rw [sI_at, upd_at]
    · show cpg (g'.2.1 1036) 0 s.1 (xnow s.1)
      refine cpg_cg (fun j hj => ?_) h4 pf
      rw [Nat.zero_add, show (1036 : Nat) = 1032 + 4 from rfl, kW j hj, show (1027 : Nat) + 4 = 1031 from rfl, aJ1]
theorem cs_restore (hc : RC g D s) (H : ∀ g', cfr g g' → RC g' D (r_restore s).2 → oc (r_restore s).1 k X g' e) : hci (d + 7) 200 [.ref 1000] g e k X := by
  have c0 := hc.1
  have hD' := c0.1.1
  have hl := hD_lt hD'
  have h4 := c0.2.1.2
  obtain ⟨h1, h2, h3, h5, h6, h7⟩ := id hc
  refine zh_X7_restore ?_
  unfold r_restore at H
  unfold ckp at h5
  cases hk : s.2.2.1 with
  | none =>
    rw [hk] at H h5
    exact zbr_t h5 (H g cfr.refl hc)
  | some r =>
    rw [hk] at H h5
    obtain ⟨k0, kb, kp⟩ := h5
    refine zbr_f (by rw [k0]; decide) (c_copyAll (A := 1027) (B := 1032) (Or.inl rfl) (Or.inr rfl) (fun g1 fo fR k1 k3 kJ kN kR kW => ?_) (by omega))
    have q : ∀ b, ¬ (1027 ≤ b ∧ b ≤ 1031) → g1.1 b = g.1 b := fun b hb => (fo b hb).1
    have qJ : ∀ b, ¬ (1027 ≤ b ∧ b ≤ 1031) → g1.2.1 b = g.2.1 b := fun b hb => (fo b hb).2
    have c1 : cdr g1 D s.1 := cdr_cg (g := g) (fun b hb => q b (by omega)) (fun b hb => qJ b (by omega)) (by rw [fR]) c0
    have b1 : cbk g1 1027 s.1 r.2 := cbk_copy h4 k1 k3 kJ kN kR kb
    have p1 : cpg (g1.2.1 1031) 0 s.1 r.1 := cpg_cg (fun j hj => by rw [Nat.zero_add, show (1031 : Nat) = 1027 + 4 from rfl, kW j hj]) h4 kp
    rw [c1.1.2]
    refine ⟨hD', zh_X0_readNow (Or.inl rfl) hD' (c_read (P := r.1) c1 (R := 1031) (n := 13) (o := 0) rfl (by omega) (by omega) (by omega) p1 (fun g2 f2 c2 => ?_))⟩
    have rr : ∀ b, (1027 ≤ b ∧ b < 1046) ∨ b < 1003 → g2.1 b = g1.1 b := fun b hb => f2.1 b (by omega) (by omega)
    have rJ : ∀ b, 1027 ≤ b → g2.2.1 b = g1.2.1 b := fun b hb => f2.2.2.1 b (by omega)
    have st := stt_pg kp.1
    refine H g2 (fun b hb => ?_) ⟨c2, by rw [f2.2.2.2, fR]; exact h2, cbk_st st (cbk_cg (rr _ (by omega)) (rJ _ (by omega)) (rr _ (by omega)) (rr _ (by omega)) b1), ckp_st st ?_, ctp_cg (by rw [rr 1001 (by omega), q 1001 (by omega)]) (by rw [rr 1002 (by omega), q 1002 (by omega)]) h6, by rw [rr 1000 (by omega), q 1000 (by omega)]; exact h7⟩
    · exact ⟨by rw [f2.1 b (by omega) (by omega), q b (by omega)], by rw [f2.2.2.1 b (by omega), qJ b (by omega)], by rw [f2.2.2.2, fR]⟩
    · show ckp g2 s.1 s.2.2.1
      rw [hk]
      exact ckp_cg (g := g) (o := some r) (by rw [rr 1000 (by omega), q 1000 (by omega)]) (by rw [rr 1032 (by omega), q 1032 (by omega)]) (by rw [rJ 1033 (by omega), qJ 1033 (by omega)]) (by rw [rr 1034 (by omega), q 1034 (by omega)]) (by rw [rr 1035 (by omega), q 1035 (by omega)]) (by rw [rJ 1036 (by omega), qJ 1036 (by omega)]) ⟨k0, kb, kp⟩
theorem cs_fault (hc : RC g D s) (H : k s.2.2.2.2 g e) : hci (d + 1) 147 [.ref 1000] g e k X := by
  refine zh_X7_fault ?_
  rw [hc.2.2.2.2.2]
  exact H
end
