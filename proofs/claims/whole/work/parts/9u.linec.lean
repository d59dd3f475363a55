/-! lines in the class -/
def crul (g : hG) (u : Nat) (l L : List tk) : Prop := g.1 u 2 = (if l = [] then 0 else 1) ∧ g.1 u 3 = bI (hasday l) ∧ (l ≠ [] → ∃ f, g.1 u 0 = nI f ∧ g.1 u 1 = nI (f + l.length) ∧ f + l.length ≤ L.length ∧ ∀ j c, l[j]? = some c → L[f + j]? = some c)
def cdz (g : hG) (D : Nat) (zl : List qZ) : Prop := g.1 D 1 = nI zl.length ∧ ∀ i q, zl[i]? = some q → zrel (zg g (D + 2 + i)) (zfin q) ∧ g.1 (D + 2 + i) 6 = 0
def cds (g : hG) (D : Nat) (sl : List Nat) : Prop := g.1 D 3 = nI sl.length ∧ ∀ j v, sl[j]? = some v → g.1 (D + 6) j = nI v
def csl (g : hG) (T : sT) (D : Nat) (t : tok) (L : List tk) : Prop := cps g T t ∧ wtk T t ∧ (hD D ∧ g.2.2 1001 7 = D) ∧ (g.1 D 5 = nI L.length ∧ ∀ j c, L[j]? = some c → g.1 (D + 7) j = cC c) ∧ L.length ≤ t.2.1
def csy (g : hG) (T : sT) (D : Nat) (t : tok) (y : sY) (L : List tk) : Prop := csl g T D t L ∧ wfy y t.2.1 ∧ cdz g D y.1 ∧ cds g D y.2.1 ∧ (crul g (D + 8) y.2.2.1 L ∧ crul g (D + 10) y.2.2.2 L) ∧ g.1 D 8 = 0
def lnf (D : Nat) (g g' : hG) : Prop := (∀ b, ¬ (D ≤ b ∧ b ≤ D + 11) → ¬ b = 1001 → g'.1 b = g.1 b) ∧ (∀ k, k < 3 → g'.1 1001 k = g.1 1001 k) ∧ (∀ b, ¬ (D ≤ b ∧ b ≤ D + 11) → g'.2.1 b = g.2.1 b) ∧ g'.2.2 = g.2.2
theorem lnf.refl {D : Nat} {g : hG} : lnf D g g := ⟨fun _ _ _ => rfl, fun _ _ => rfl, fun _ _ => rfl, rfl⟩
theorem lnf.trans {D : Nat} {g g' g'' : hG} (h : lnf D g g') (h' : lnf D g' g'') : lnf D g g'' := ⟨fun b q r => (h'.1 b q r).trans (h.1 b q r), fun k q => (h'.2.1 k q).trans (h.2.1 k q), fun b q => (h'.2.2.1 b q).trans (h.2.2.1 b q), h'.2.2.2.trans h.2.2.2⟩
theorem lnf_t {D : Nat} {g g' : hG} (h : tff g g') : lnf D g g' := ⟨fun b _ q => h.1 b q, fun k q => h.2.1 k (.inl q), fun b _ => by rw [h.2.2], by rw [h.2.2]⟩
theorem lnf_s {D : Nat} {g g' : hG} (h : sfr D g g') : lnf D g g' := ⟨fun b q r => h.1 b r (by omega) (by omega), fun k q => h.2.1 k (.inl q), fun b _ => by rw [h.2.2.2], by rw [h.2.2.2]⟩
theorem lnf_zp {D i : Nat} {g : hG} {z : cZ} (hD' : hD D) (hi : i < 4) : lnf D g (zp g (D + 2 + i) z) := by
  have := hD_lt hD'
  exact ⟨fun b q _ => va_up_off _ _ (by omega), fun k _ => congrFun (va_up_off _ _ (by omega)) k, fun b q => va_up_off _ _ (by omega), rfl⟩
theorem getD_up {l : List Nat} {v : Nat} : va_up (fun p => l.getD p 0) l.length v = fun p => (l ++ [v]).getD p 0 := by
  funext p
  by_cases c : p = l.length
  · subst c
    rw [va_up_at, List.getD_eq_getElem?_getD, List.getElem?_append_right (Nat.le_refl _), Nat.sub_self]
    rfl
  · rw [va_up_off _ _ c]
    show l.getD p 0 = (l ++ [v]).getD p 0
    rw [List.getD_eq_getElem?_getD, List.getD_eq_getElem?_getD]
    by_cases c2 : p < l.length
    · rw [List.getElem?_append_left c2]
    · rw [List.getElem?_eq_none (by omega), List.getElem?_eq_none (by rw [List.length_append, List.length_singleton]; omega)]
def zbl (g : hG) (a n c : Nat) (l r : List Nat) : Prop := zrel (zg g a) (n, c, fun p => l.getD p 0, fun p => r.getD p 0, 0, 0) ∧ g.1 a 6 = 0
theorem gr_00 : ∀ p, p < 16 → gr 0 p = nI (([] : List Nat).getD p 0) := by decide +kernel
/-- a zip in the making: all but its own row and the token stays -/
def zmf (a : Nat) (g g' : hG) : Prop := (∀ b, ¬ b = a → ¬ b = 1001 → g'.1 b = g.1 b) ∧ (∀ k, k < 3 ∨ 6 < k → g'.1 1001 k = g.1 1001 k) ∧ (∀ b, ¬ b = a → g'.2.1 b = g.2.1 b) ∧ g'.2.2 = g.2.2
theorem zmf.refl {a : Nat} {g : hG} : zmf a g g := ⟨fun _ _ _ => rfl, fun _ _ => rfl, fun _ _ => rfl, rfl⟩
theorem zmf.trans {a : Nat} {g g' g'' : hG} (h : zmf a g g') (h' : zmf a g' g'') : zmf a g g'' := ⟨fun b q r => (h'.1 b q r).trans (h.1 b q r), fun k q => (h'.2.1 k q).trans (h.2.1 k q), fun b q => (h'.2.2.1 b q).trans (h.2.2.1 b q), h'.2.2.2.trans h.2.2.2⟩
theorem zmf_t {a : Nat} {g g' : hG} (h : tff g g') : zmf a g g' := ⟨fun b _ q => h.1 b q, h.2.1, fun b _ => by rw [h.2.2], by rw [h.2.2]⟩
theorem zmf_z {a : Nat} {g : hG} {z : cZ} (ha : ¬ a = 1001) : zmf a g (zp g a z) := ⟨fun b q _ => va_up_off _ _ q, fun k _ => congrFun (va_up_off _ _ (fun z => ha z.symm)) k, fun b q => va_up_off _ _ q, rfl⟩
section
variable {d : Nat} {k : Int32 → hG → hE → Prop} {kv : hG → hE → Prop} {X : Nat → hG → hE → Prop} {g : hG} {e : hE} {T : sT} {t : tok} {D : Nat} {L : List tk} {y : sY} {a : Nat}
theorem zbl_t {g' : hG} {n c : Nat} {l r : List Nat} (ha : ¬ a = 1001) (h : tff g g') (hz : zbl g a n c l r) : zbl g' a n c l r := by
  unfold zbl
  rw [show zg g' a = zg g a from zg_cg (h.1 a ha) (by rw [h.2.2]), h.1 a ha]
  exact hz
theorem cps_zp {z : cZ} (ha : 1003 ≤ a ∧ a < 1027) (hc : cps g T t) : cps (zp g a z) T t := cps_cg (va_up_off _ _ (by omega)) (va_up_off _ _ (by omega)) hc
theorem c_leftTape (ha : hT a = some hZ) (ha' : 1003 ≤ a ∧ a < 1027) {c : Nat} (hw0 : wtk T t) (hc0 : cps g T t) (hz0 : zbl g a 0 c [] []) (H : match pleft T 17 t [] with | .inl q => ∀ g', zmf a g g' → cps g' T q.1 → zbl g' a q.2.length c q.2 [] → k 1 g' e | .inr q => ∀ g', zmf a g g' → cfl g' q.1 q.2 → k 0 g' e) : hci (d + 8) 78 [.ref 1001, .ref a] g e k X := by
  refine zh_X3_leftTape ha ?_
  have main : ∀ f t1 s g1, s.length + f = 17 → zmf a g g1 → cps g1 T t1 → wtk T t1 → zbl g1 a 0 c s [] → (match pleft T f t1 s with | .inl q => ∀ g', zmf a g g' → cps g' T q.1 → zbl g' a q.2.length c q.2 [] → k 1 g' e | .inr q => ∀ g', zmf a g g' → cfl g' q.1 q.2 → k 0 g' e) → hwi (d + 7) zm_X3_leftTape k X 2 [(0, .ref 1001), (1, .ref a), (2, .int (nI s.length))] g1 e := by
    intro f
    induction f with
    | zero =>
      intro t1 s g1 hl f1 c1 w1 z1 H
      exact zh_X3_leftTape_2 ha (zbr_t (by rw [show (16 : Int32) = nI 16 from rfl]; exact nI_lt (by omega) (by omega)) (c_fail (c := 1) c1 (fun g' f' b' => ⟨.inl rfl, H g' (f1.trans (zmf_t f')) b'⟩)))
    | succ f ih =>
      intro t1 s g1 hl f1 c1 w1 z1 H
      unfold pleft at H
      have k2 := c1.2.1
      have w4 := w1.2.2.2.1
      have at32 : ¬ (¬ s = [] ∧ isW T t1 (htx 6) = true) → hwi (d + 7) zm_X3_leftTape k X 32 [(0, .ref 1001), (1, .ref a), (2, .int (nI s.length))] g1 e := by
        intro nw
        rw [if_neg nw] at H
        refine zh_X3_leftTape_32 ha ?_
        rw [k2]
        by_cases c2 : t1.1 = 2
        · rw [if_neg (not_not_intro c2)] at H
          have l5 := (w1.2.2.2.2.2 c2).1
          refine zbr_t (by rw [c2]; rfl) ⟨fun q => ?_, fun q => ?_⟩
          · rw [if_pos (.inl ((nI_eq (b := 16) (by omega) (by omega)).mp q))] at H
            exact c_fail (c := 2) c1 (fun g' f' b' => ⟨.inl rfl, H g' (f1.trans (zmf_t f')) b'⟩)
          · have n16 : ¬ s.length = 16 := fun z => q (by rw [z]; rfl)
            refine c_number c1 c2 ⟨fun q2 => ?_, fun q2 => ?_⟩
            · have le : t1.2.2.2 ≤ 9 := (nI_leI (b := 9) (by omega) (by omega)).mp q2
              rw [if_neg (fun z => z.elim n16 (fun z => z le))] at H
              refine c_number c1 c2 (c_putGrip ha ?_)
              have z2 : zbl (zp g1 a (zgput (zg g1 a) 0 s.length (nI t1.2.2.2))) a 0 c (s ++ [t1.2.2.2]) [] := by
                refine ⟨?_, ?_⟩
                · rw [zg_zp]
                  have := zrel_put0 (p := s.length) (v := t1.2.2.2) z1.1 (by omega) (by omega)
                  rw [show (va_up (fun p => s.getD p 0) s.length t1.2.2.2) = fun p => (s ++ [t1.2.2.2]).getD p 0 from getD_up] at this
                  exact this
                · have : (zg (zp g1 a (zgput (zg g1 a) 0 s.length (nI t1.2.2.2))) a).2.2.2.2.2.2 = 0 := by
                    rw [zg_zp]; unfold zgput; rw [if_pos rfl]
                  exact this
              have f2 := f1.trans (zmf_z (g := g1) (z := zgput (zg g1 a) 0 s.length (nI t1.2.2.2)) (show ¬ a = 1001 by omega))
              refine c_next (cps_zp ha' c1) w1 (fun g3 f3 c3 => ?_)
              rw [nI_1]
              have := ih _ (s ++ [t1.2.2.2]) g3 (by rw [List.length_append, List.length_singleton]; omega) (f2.trans (zmf_t (tff_t f3))) c3 (nx_w w1).1 (zbl_t (by omega) (tff_t f3) z2) H
              rw [List.length_append, List.length_singleton] at this
              exact this
            · rw [if_pos (.inr (fun z => q2 (nI_le (b := 9) z (by omega))))] at H
              exact c_fail (c := 2) c1 (fun g' f' b' => ⟨.inl rfl, H g' (f1.trans (zmf_t f')) b'⟩)
        · rw [if_pos c2] at H
          exact zbr_f (fun z => c2 ((nI_eq (b := 2) (by omega) (by omega)).mp z)) (c_fail (c := 1) c1 (fun g' f' b' => ⟨.inl rfl, H g' (f1.trans (zmf_t f')) b'⟩))
      refine zh_X3_leftTape_2 ha (zbr_f (by rw [show (16 : Int32) = nI 16 from rfl]; exact nI_nlt (by omega) (by omega)) ?_)
      by_cases c0 : s = []
      · exact zbr_t (by rw [c0]; decide) (at32 (fun z => z.1 c0))
      · have lp : 0 < s.length := List.length_pos_iff.mpr c0
        refine zbr_f (nI_ge (a := 0) lp (by omega)) (c_isWord (p := 12) c1 w1 (by decide) ?_)
        cases q : isW T t1 (htx 6) with
        | false =>
          exact zbr_t rfl (at32 (fun z => by rw [q] at z; exact absurd z.2 (by decide)))
        | true =>
          rw [if_pos ⟨c0, q⟩] at H
          refine zbr_f (by decide) (zh_X6_makeSize ha ?_)
          rw [s0]
          have z2 : zbl (zp g1 a (nI s.length, (zg g1 a).2)) a s.length c s [] := by
            refine ⟨?_, ?_⟩
            · rw [zg_zp]
              exact ⟨rfl, z1.1.2⟩
            · have : (zg (zp g1 a (nI s.length, (zg g1 a).2)) a).2.2.2.2.2.2 = 0 := by rw [zg_zp]; exact z1.2
              exact this
          have f2 := f1.trans (zmf_z (g := g1) (z := (nI s.length, (zg g1 a).2)) (show ¬ a = 1001 by omega))
          exact c_next (cps_zp ha' c1) w1 (fun g3 f3 c3 => H g3 (f2.trans (zmf_t (tff_t f3))) c3 (zbl_t (by omega) (tff_t f3) z2))
  exact main 17 t [] g rfl zmf.refl hc0 hw0 hz0 H
theorem c_rightTape (ha : hT a = some hZ) (ha' : 1003 ≤ a ∧ a < 1027) {c n : Nat} {l : List Nat} (hn : n ≤ 16) (hw0 : wtk T t) (hc0 : cps g T t) (hz0 : zbl g a n c l []) (H : match pright T n t [] with | .inl q => ∀ g', zmf a g g' → cps g' T q.1 → zbl g' a n c l q.2 → k 1 g' e | .inr q => ∀ g', zmf a g g' → cfl g' q.1 q.2 → k 0 g' e) : hci (d + 8) 79 [.ref 1001, .ref a] g e k X := by
  refine zh_X3_rightTape ha ?_
  have main : ∀ f t1 s g1, s.length + f = n → zmf a g g1 → cps g1 T t1 → wtk T t1 → zbl g1 a n c l s → (match pright T f t1 s with | .inl q => ∀ g', zmf a g g' → cps g' T q.1 → zbl g' a n c l q.2 → k 1 g' e | .inr q => ∀ g', zmf a g g' → cfl g' q.1 q.2 → k 0 g' e) → hwi (d + 7) zm_X3_rightTape k X 2 [(0, .ref 1001), (1, .ref a), (2, .int (nI s.length))] g1 e := by
    intro f
    induction f with
    | zero =>
      intro t1 s g1 hl f1 c1 w1 z1 H
      refine zh_X3_rightTape_2 ha (c_size ha (zbr_t ?_ (H g1 f1 c1 z1)))
      rw [show (zg g1 a).1 = nI n from z1.1.1]
      exact nI_le (by omega) (by omega)
    | succ f ih =>
      intro t1 s g1 hl f1 c1 w1 z1 H
      unfold pright at H
      have k2 := c1.2.1
      have w4 := w1.2.2.2.1
      refine zh_X3_rightTape_2 ha (c_size ha (zbr_f (by rw [show (zg g1 a).1 = nI n from z1.1.1]; exact nI_ge (by omega) (by omega)) ?_))
      rw [k2]
      by_cases c2 : t1.1 = 2
      · rw [if_neg (not_not_intro c2)] at H
        have l5 := (w1.2.2.2.2.2 c2).1
        refine zbr_t (by rw [c2]; rfl) (c_number c1 c2 ⟨fun q2 => ?_, fun q2 => ?_⟩)
        · have le : t1.2.2.2 ≤ 9 := (nI_leI (b := 9) (by omega) (by omega)).mp q2
          rw [if_neg (not_not_intro le)] at H
          refine c_number c1 c2 (c_putGrip ha ?_)
          have z2 : zbl (zp g1 a (zgput (zg g1 a) 1 s.length (nI t1.2.2.2))) a n c l (s ++ [t1.2.2.2]) := by
            refine ⟨?_, ?_⟩
            · rw [zg_zp]
              have := zrel_put1 (p := s.length) (v := t1.2.2.2) z1.1 (by omega) (by omega)
              rw [show (va_up (fun p => s.getD p 0) s.length t1.2.2.2) = fun p => (s ++ [t1.2.2.2]).getD p 0 from getD_up] at this
              exact this
            · have : (zg (zp g1 a (zgput (zg g1 a) 1 s.length (nI t1.2.2.2))) a).2.2.2.2.2.2 = 0 := by
                rw [zg_zp]; unfold zgput; rw [if_neg (by decide)]
              exact this
          have f2 := f1.trans (zmf_z (g := g1) (z := zgput (zg g1 a) 1 s.length (nI t1.2.2.2)) (show ¬ a = 1001 by omega))
          refine c_next (cps_zp ha' c1) w1 (fun g3 f3 c3 => ?_)
          rw [nI_1]
          have := ih _ (s ++ [t1.2.2.2]) g3 (by rw [List.length_append, List.length_singleton]; omega) (f2.trans (zmf_t (tff_t f3))) c3 (nx_w w1).1 (zbl_t (by omega) (tff_t f3) z2) H
          rw [List.length_append, List.length_singleton] at this
          exact this
        · rw [if_pos (fun z => q2 (nI_le (b := 9) z (by omega)))] at H
          exact c_fail (c := 2) c1 (fun g' f' b' => ⟨.inl rfl, H g' (f1.trans (zmf_t f')) b'⟩)
      · rw [if_pos c2] at H
        exact zbr_f (fun z => c2 ((nI_eq (b := 2) (by omega) (by omega)).mp z)) (c_fail (c := 1) c1 (fun g' f' b' => ⟨.inl rfl, H g' (f1.trans (zmf_t f')) b'⟩))
  exact main n t [] g (by rw [List.length_nil, Nat.zero_add]) zmf.refl hc0 hw0 hz0 H
/-- the outcome of a line -/
def cOl (T : sT) (D : Nat) (g : hG) (e : hE) (k : Int32 → hG → hE → Prop) (r : (tok × sY) ⊕ (Nat × Nat)) : Prop := match r with
  | .inl q => ∀ g' L', lnf D g g' → csy g' T D q.1 q.2 L' → k 1 g' e
  | .inr q => ∀ g', lnf D g g' → cfl g' q.1 q.2 → k 0 g' e
theorem lnf_zm {i : Nat} {g' : hG} (hD' : hD D) (hi : i < 4) (h : zmf (D + 2 + i) g g') : lnf D g g' := ⟨fun b q r => h.1 b (by omega) r, fun k q => h.2.1 k (.inl q), fun b q => h.2.2.1 b (by omega), h.2.2.2⟩
/-- all of the state but the token and a zip in the making stays -/
theorem csy_zm {i : Nat} {g' : hG} {t' : tok} (hs : csy g T D t y L) (hi : i < 4) (hyi : y.1.length ≤ i) (f : zmf (D + 2 + i) g g') (hc : cps g' T t') (hw : wtk T t') (ht : t.2.1 ≤ t'.2.1) : csy g' T D t' y L := by
  obtain ⟨⟨h1, h2, h3, h4, h5⟩, hy, hz, hst, hr, h8⟩ := hs
  have hl := hD_lt h3.1
  have q : ∀ b, ¬ (D + 2 ≤ b ∧ b ≤ D + 5) → ¬ b = 1001 → g'.1 b = g.1 b := fun b q1 q2 => f.1 b (by omega) q2
  refine ⟨⟨hc, hw, ⟨h3.1, by rw [f.2.2.2]; exact h3.2⟩, ?_, by omega⟩, wfy_up hy ht, ⟨?_, fun j z hj => ?_⟩, ?_, ⟨?_, ?_⟩, ?_⟩
  · rw [q D (by omega) (by omega), q (D + 7) (by omega) (by omega)]; exact h4
  · rw [q D (by omega) (by omega)]; exact hz.1
  · have hjl := (List.getElem?_eq_some_iff.mp hj).1
    rw [show zg g' (D + 2 + j) = zg g (D + 2 + j) from zg_cg (f.1 _ (by omega) (by omega)) (f.2.2.1 _ (by omega)), f.1 (D + 2 + j) (by omega) (by omega)]
    exact hz.2 j z hj
  · unfold cds
    rw [q D (by omega) (by omega), q (D + 6) (by omega) (by omega)]; exact hst
  · unfold crul
    rw [q (D + 8) (by omega) (by omega)]; exact hr.1
  · unfold crul
    rw [q (D + 10) (by omega) (by omega)]; exact hr.2
  · rw [q D (by omega) (by omega)]; exact h8
theorem c_zipLine (hs : csy g T D t y L) (h0 : ¬ t.1 = 0) {c : Nat} (hc1 : c ≤ 1) (H : cOl T D g e k (pzip T c y t)) : hci (d + 11) 77 [.ref 1001, .int (nI c)] g e k X := by
  obtain ⟨⟨h1, h2, h3, h4, h5⟩, hy, hz, hst, hr, h8⟩ := id hs
  have hD' := h3.1
  have hl := hD_lt hD'
  have l4 := hy.1.1
  refine zh_X3_zipLine ?_
  unfold pzip at H
  rw [h3.2]
  refine ⟨hD', zh_X2_isFull hD' ?_⟩
  rw [hz.1]
  refine zbr_f (nI_pos (by omega)) ⟨fun cl => ?_, fun cl => ?_⟩
  · have n4 : y.1.length < 4 := Nat.lt_of_not_le (fun z => absurd cl (nI_nlt z (by omega)))
    rw [if_neg (by omega)] at H
    refine zbr_t rfl ?_
    rw [h3.2]
    have hT1 := hT_zip (D := D) hD' n4
    refine ⟨hD', zh_X2_nextZip hD' ?_⟩
    rw [hz.1]
    refine zbr_f (nI_pos (by omega)) (zbr_f (nI_ge n4 (by omega)) ⟨D + 2 + y.1.length, nI_in n4 (by omega), ?_, hT1, hT1, zh_X6_makeEmpty hT1 ⟨?_, ?_⟩⟩)
    · rw [nI_clamp (by omega)]
      exact hR_zip hD' n4
    · rcases (show c = 0 ∨ c = 1 by omega) with rfl | rfl
      · exact .inl rfl
      · exact .inr rfl
    · rw [s6, s0, zp_zp, zg_zp, s1, zp_zp, zg_zp, s2, zp_zp, zg_zp, s3, zp_zp, zg_zp, s4, zp_zp, zg_zp, s5, zp_zp, zg_zp]
      obtain ⟨a, haa⟩ : ∃ a, a = D + 2 + y.1.length := ⟨_, rfl⟩
      rw [← haa] at hT1 ⊢
      have ha' : 1003 ≤ a ∧ a < 1027 := by omega
      have z1 : zbl (zp g a (0, nI c, 0, 0, 0, 0, 0)) a 0 c [] [] := by
        refine ⟨?_, ?_⟩
        · rw [zg_zp]
          exact ⟨rfl, rfl, gr_00, gr_00, rfl, rfl⟩
        · have : (zg (zp g a (0, nI c, 0, 0, 0, 0, 0)) a).2.2.2.2.2.2 = 0 := by rw [zg_zp]
          exact this
      have f1 : zmf a g (zp g a (0, nI c, 0, 0, 0, 0, 0)) := zmf_z (by omega)
      refine c_next (cps_zp ha' h1) h2 (fun g2 f2 c2 => ?_)
      have n2 := nx_w h2
      have z2 := zbl_t (by omega) (tff_t f2) z1
      have F2 := f1.trans (zmf_t (a := a) (tff_t f2))
      refine c_leftTape hT1 ha' n2.1 c2 z2 ?_
      have gl := pleft_gd (t0 := tkn T t.2.2.1) 17 _ [] n2.1 (Nat.le_refl _) (Nat.zero_le _) (fun v h => by cases h)
      cases hq : pleft T 17 (tkn T t.2.2.1) [] with
      | inr ee =>
        rw [hq] at H
        exact fun g3 f3 b3 => zbr_t rfl (H g3 (lnf_zm hD' n4 (by rw [← haa]; exact F2.trans f3)) b3)
      | inl q =>
        rw [hq] at H gl
        obtain ⟨q1, q2, q3, q4, q5⟩ := gl
        intro g3 f3 c3 z3
        refine zbr_f (by decide) (c_rightTape hT1 ha' q4 q1 c3 z3 ?_)
        have gr' := pright_gd (t0 := q.1) q.2.length q.1 [] q1 (Nat.le_refl _) (fun v h => by cases h)
        have H : cOl T D g e k (match pright T q.2.length q.1 [] with | .inr e => .inr e | .inl r => if isC T r.1 59 = true then .inl (tkn T r.1.2.2.1, (y.1 ++ [(c, q.2, r.2)], y.2)) else .inr (1, r.1.2.1)) := H
        have F3 := F2.trans f3
        cases hr2 : pright T q.2.length q.1 [] with
        | inr ee =>
          rw [hr2] at H
          exact fun g4 f4 b4 => zbr_t rfl (H g4 (lnf_zm hD' n4 (by rw [← haa]; exact F3.trans f4)) b4)
        | inl r =>
          rw [hr2] at H gr'
          obtain ⟨r1, r2, r3, r4, r5⟩ := gr'
          have H : cOl T D g e k (if isC T r.1 59 = true then .inl (tkn T r.1.2.2.1, (y.1 ++ [(c, q.2, r.2)], y.2)) else .inr (1, r.1.2.1)) := H
          intro g4 f4 c4 z4
          have F4 := F3.trans f4
          refine zbr_f (by decide) (c_takeSign (c := 59) c4 r1 (by omega) (fun qs g5 f5 c5 => zbr_f (by decide) ?_) (fun qs g5 f5 b5 => zbr_t rfl ?_))
          · rw [if_pos qs] at H
            have F5 := F4.trans (zmf_t (a := a) f5)
            have z5 := zbl_t (by omega) f5 z4
            have m2 := nx_w r1
            have lt0 := h2.2.2.1 h0
            have ltr := r1.1
            have S5 := csy_zm hs n4 (Nat.le_refl _) (by rw [← haa]; exact F5) c5 m2.1 (by omega)
            rw [S5.1.2.2.1.2]
            rw [List.length_nil, Nat.zero_add] at r3 r4
            have wq : wfz (c, q.2, r.2) := ⟨hc1, q3, q4, Nat.le_antisymm r4 r3, q5, r5⟩
            refine ⟨hD', zh_X2_addZip hD' (zh_X2_isFull hD' ?_)⟩
            rw [S5.2.2.1.1]
            have hTn := hT_zip (D := D) hD' n4
            refine zbr_f (nI_pos (by omega)) (zbr_t (nI_lt n4 (by omega)) (zbr_t rfl (zh_X2_nextZip hD' ?_)))
            rw [S5.2.2.1.1]
            refine zbr_f (nI_pos (by omega)) (zbr_f (nI_ge n4 (by omega)) ⟨D + 2 + y.1.length, nI_in n4 (by omega), ?_, hTn, hTn, ?_⟩)
            · rw [nI_clamp (by omega)]; exact hR_zip hD' n4
            · rw [← haa]
              refine c_slideToTop hT1 (n := q.2.length) z5.1.1 q4 ?_
              have zf := zrel_slide (s := zraw (c, q.2, r.2)) z5.1 (sok_raw wq) q.2.length
              have F6 : zmf a g (zp g5 a (zslide (zg g5 a) q.2.length (nI q.2.length))) := F5.trans (zmf_z (by omega))
              have S6 := csy_zm (g' := zp g5 a (zslide (zg g5 a) q.2.length (nI q.2.length))) hs n4 (Nat.le_refl _) (by rw [← haa]; exact F6) (cps_zp ha' c5) m2.1 (by omega)
              have z6 : zrel (zg (zp g5 a (zslide (zg g5 a) q.2.length (nI q.2.length))) a) (zfin (c, q.2, r.2)) := by rw [zg_zp]; exact zf
              have k6 : (zp g5 a (zslide (zg g5 a) q.2.length (nI q.2.length))).1 a 6 = 0 := by
                have : (zg (zp g5 a (zslide (zg g5 a) q.2.length (nI q.2.length))) a).2.2.2.2.2.2 = 0 := by rw [zg_zp]; rfl
                exact this
              generalize zp g5 a (zslide (zg g5 a) q.2.length (nI q.2.length)) = g6 at *
              rw [S6.2.2.1.1, nI_1]
              obtain ⟨⟨a1, a2, a3, a4, a5⟩, b1, b2, b3, b4, b5⟩ := S6
              have qq : ∀ b, ¬ b = D → (sI g6 D 1 (nI (y.1.length + 1))).1 b = g6.1 b := fun b hb => sI_off _ hb
              have qD : ∀ k, ¬ k = 1 → (sI g6 D 1 (nI (y.1.length + 1))).1 D k = g6.1 D k := fun k hk => by rw [sI_at, upd_off _ _ hk]
              refine H _ L ((lnf_zm hD' n4 (by rw [← haa]; exact F6)).trans ⟨fun b q r => qq b (by omega), fun k _ => by rw [qq 1001 (by omega)], fun _ _ => rfl, rfl⟩) ⟨⟨cps_cg (qq _ (by omega)) (qq _ (by omega)) a1, a2, ⟨hD', a3.2⟩, ?_, a5⟩, ?_, ⟨?_, fun i z hi => ?_⟩, ?_, ⟨?_, ?_⟩, ?_⟩
              · rw [qD 5 (by omega), qq (D + 7) (by omega)]; exact a4
              · have := pzip_gd (T := T) (c := c) (y := y) (t := t) hc1 h2 h0 hy
                unfold pzip at this
                rw [if_neg (by omega), hq] at this
                have this : pgl T t (match pright T q.2.length q.1 [] with | .inr e => .inr e | .inl r => if isC T r.1 59 = true then .inl (tkn T r.1.2.2.1, (y.1 ++ [(c, q.2, r.2)], y.2)) else .inr (1, r.1.2.1)) := this
                rw [hr2] at this
                have this : pgl T t (if isC T r.1 59 = true then .inl (tkn T r.1.2.2.1, (y.1 ++ [(c, q.2, r.2)], y.2)) else .inr (1, r.1.2.1)) := this
                rw [if_pos qs] at this
                exact this.2.2
              · rw [sI_at, upd_at, List.length_append]; rfl
              · rw [show zg (sI g6 D 1 (nI (y.1.length + 1))) (D + 2 + i) = zg g6 (D + 2 + i) from zg_cg (qq _ (by omega)) rfl, qq (D + 2 + i) (by omega)]
                by_cases ci : i = y.1.length
                · subst ci
                  rw [List.getElem?_append_right (Nat.le_refl _), Nat.sub_self] at hi
                  rw [← Option.some.inj hi, ← haa]
                  exact ⟨z6, k6⟩
                · have hil : i < y.1.length := by
                    have := (List.getElem?_eq_some_iff.mp hi).1
                    rw [List.length_append] at this
                    have : i < y.1.length + 1 := this
                    omega
                  rw [List.getElem?_append_left hil] at hi
                  exact b2.2 i z hi
              · unfold cds
                rw [qD 3 (by omega), qq (D + 6) (by omega)]; exact b3
              · unfold crul
                rw [qq (D + 8) (by omega)]; exact b4.1
              · unfold crul
                rw [qq (D + 10) (by omega)]; exact b4.2
              · rw [qD 8 (by omega)]; exact b5
          · rw [if_neg (by rw [qs]; decide)] at H
            exact H g5 (lnf_zm hD' n4 (by rw [← haa]; exact F4.trans (zmf_t f5))) b5
  · have n4 : y.1.length = 4 := by
      have : ¬ y.1.length < 4 := fun z => cl (nI_lt z (by omega))
      omega
    rw [if_pos n4] at H
    exact zbr_f (by decide) (c_fail (c := 2) h1 (fun g' f' b' => ⟨.inl rfl, H g' (lnf_t f') b'⟩))
end
