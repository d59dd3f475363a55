/-! DRAWER in the class -/
def yT (s : sS) (n : Nat) : sT := (n, s.2.2.2.1.2)
def y0 : sY := ([], [], [], [])
def r_drawer (s : sS) (n : Int32) : rs × sS := if iszb (s.2.2.2.1.1 + 1) n then (match plines (yT s n.toNatClampNeg) 701 y0 (tkn (yT s n.toNatClampNeg) 0) with
  | .inr q => (.inl (nI q.1), (s.1, (s.2.1.1, s.2.1.2.1, va_up s.2.1.2.2 0 (s.2.1.2.2 0 + 1)), s.2.2.1, (0, s.2.2.2.1.2), nI q.2))
  | .inl y => (.inl 0, (yX y, ([], [], s.2.1.2.2), none, (0, s.2.2.2.1.2), -1))) else (.inr 0, s)
theorem sR_at (g : hG) (a k v : Nat) : (sR g a k v).2.2 a k = v := by
  show va_up g.2.2 a (va_up (g.2.2 a) k v) a k = v
  rw [va_up_at, va_up_at]
theorem sR_ak (g : hG) {a k j v : Nat} (h : ¬ j = k) : (sR g a k v).2.2 a j = g.2.2 a j := by
  show va_up g.2.2 a (va_up (g.2.2 a) k v) a j = _
  rw [va_up_at, va_up_off _ _ h]
theorem sR_off (g : hG) {a k b v : Nat} (h : ¬ b = a) : (sR g a k v).2.2 b = g.2.2 b := va_up_off _ _ h
section
variable {d : Nat} {k : Int32 → hG → hE → Prop} {kv : hG → hE → Prop} {X : Nat → hG → hE → Prop} {g : hG} {e : hE} {T : sT} {t : tok} {D : Nat} {L : List tk} {y : sY} {s : sS}
theorem c_line (hs : csy g T D t y L) (h0 : ¬ t.1 = 0) (H : cOl T D g e k (pline T y t)) : hci (d + 60) 76 [.ref 1001] g e k X := by
  have h1 := hs.1.1
  have h2 := hs.1.2.1
  have cO' : ∀ r, cOl T D g e k r → cOl T D g e (fun x g' e' => (x = 0 ∨ x = 1) ∧ k x g' e') r := by
    intro r hr
    cases r with
    | inl q => exact fun g' L' f' S' => ⟨.inr rfl, hr g' L' f' S'⟩
    | inr q => exact fun g' f' b' => ⟨.inl rfl, hr g' f' b'⟩
  unfold pline at H
  refine zh_X3_line (c_isWord (p := 2) h1 h2 (by decide) ?_)
  cases q1 : isW T t (htx 1) with
  | true =>
    rw [if_pos q1] at H
    exact zbr_f (by decide) (c_zipLine (c := 0) hs h0 (by omega) (cO' _ H))
  | false =>
    rw [if_neg (by rw [q1]; decide)] at H
    refine zbr_t rfl (c_isWord (p := 4) h1 h2 (by decide) ?_)
    cases q2 : isW T t (htx 2) with
    | true =>
      rw [if_pos q2] at H
      exact zbr_f (by decide) (c_zipLine (c := 1) hs h0 (by omega) (cO' _ H))
    | false =>
      rw [if_neg (by rw [q2]; decide)] at H
      refine zbr_t rfl (c_isWord (p := 6) h1 h2 (by decide) ?_)
      cases q3 : isW T t (htx 3) with
      | true =>
        rw [if_pos q3] at H
        exact zbr_f (by decide) (c_strainLine hs h0 (cO' _ H))
      | false =>
        rw [if_neg (by rw [q3]; decide)] at H
        refine zbr_t rfl (c_isWord (p := 8) h1 h2 (by decide) ?_)
        cases q4 : isW T t (htx 4) with
        | true =>
          rw [if_pos q4] at H
          exact zbr_f (by decide) (c_ruleLine (pu := true) hs h0 (cO' _ H))
        | false =>
          rw [if_neg (by rw [q4]; decide)] at H
          refine zbr_t rfl (c_isWord (p := 10) h1 h2 (by decide) ?_)
          cases q5 : isW T t (htx 5) with
          | true =>
            rw [if_pos q5] at H
            exact zbr_f (by decide) (c_ruleLine (pu := false) hs h0 (cO' _ H))
          | false =>
            rw [if_neg (by rw [q5]; decide)] at H
            exact zbr_t rfl (c_fail (c := 1) h1 (fun g' f' b' => ⟨.inl rfl, H g' (lnf_t f') b'⟩))
/-- the reading of a text: what it leaves as it was; the tape is empty then -/
def txf (D : Nat) (g g' : hG) : Prop := (∀ b, ¬ (D ≤ b ∧ b ≤ D + 11) → ¬ b = 1001 → g'.1 b = g.1 b ∧ g'.2.1 b = g.2.1 b) ∧ g'.1 1001 1 = 0 ∧ g'.2.2 = g.2.2
def cOr (T : sT) (D : Nat) (g : hG) (e : hE) (k : Int32 → hG → hE → Prop) (r : sY ⊕ (Nat × Nat)) : Prop := match r with
  | .inl y => ∀ g' t' L', txf D g g' → csy g' T D t' y L' → k 0 g' e
  | .inr q => ∀ g', txf D g g' → cfl g' q.1 q.2 → ¬ nI q.1 = 0 → k (nI q.1) g' e
theorem c_readText (hD' : hD D) (hi : g.2.2 1001 7 = D) {n : Nat} (hn : n ≤ 700) (hT : T.1 = n) (hx : ∀ i, i < n → g.1 1002 i = sby8 (T.2 i) ∧ T.2 i < 256) (H : cOr T D g e k (plines T 701 y0 (tkn T 0))) : hci (d + 62) 65 [.ref 1001, .int (nI n)] g e k X := by
  have hl := hD_lt hD'
  obtain ⟨u8, u10⟩ := hD_us hD'
  refine zh_X3_read (c_min ?_)
  rw [imn_nI (by omega) (by omega), Nat.min_eq_left hn]
  refine c_max ?_
  rw [show (0 : Int32) = nI 0 from rfl, imx_nI (by omega) (by omega), Nat.max_eq_right (Nat.zero_le _), show nI 0 = (0 : Int32) from rfl]
  have R1 : (sI (sI (sI (sI g 1001 2 (nI n)) 1001 1 0) 1001 5 0) 1001 6 0).2.2 1001 7 = D := hi
  have q1 : ∀ b, ¬ b = 1001 → (sI (sI (sI (sI g 1001 2 (nI n)) 1001 1 0) 1001 5 0) 1001 6 0).1 b = g.1 b := fun b hb => by
    rw [sI_off _ hb, sI_off _ hb, sI_off _ hb, sI_off _ hb]
  have v1 : (sI (sI (sI (sI g 1001 2 (nI n)) 1001 1 0) 1001 5 0) 1001 6 0).1 1001 2 = nI n := by
    rw [sI_at, upd_off _ _ (by omega), sI_at, upd_off _ _ (by omega), sI_at, upd_off _ _ (by omega), sI_at, upd_at]
  have vT : (sI (sI (sI (sI g 1001 2 (nI n)) 1001 1 0) 1001 5 0) 1001 6 0).1 1001 1 = 0 := by
    rw [sI_at, upd_off _ _ (by omega), sI_at, upd_off _ _ (by omega), sI_at, upd_at]
  have v4 : (sI (sI (sI (sI g 1001 2 (nI n)) 1001 1 0) 1001 5 0) 1001 6 0).1 1001 5 = 0 := by
    rw [sI_at, upd_off _ _ (by omega), sI_at, upd_at]
  have qJ : (sI (sI (sI (sI g 1001 2 (nI n)) 1001 1 0) 1001 5 0) 1001 6 0).2 = g.2 := rfl
  rw [R1]
  generalize sI (sI (sI (sI g 1001 2 (nI n)) 1001 1 0) 1001 5 0) 1001 6 0 = g1 at *
  refine ⟨hD', zh_X2_makeEmpty hD' (zh_X4_untell (hUD8 hD') (zh_X4_untell (hUD10 hD') ?_))⟩
  have G : ∃ g2, g2 = sI (sI (sI (sI (sI (sI (sI (sI g1 D 1 0) D 3 0) D 5 0) (D + 8) 2 0) (D + 8) 3 0) (D + 10) 2 0) (D + 10) 3 0) D 8 0 := ⟨_, rfl⟩
  obtain ⟨g2, hg2⟩ := G
  rw [← hg2]
  have o2 : ∀ b, ¬ b = D → ¬ b = D + 8 → ¬ b = D + 10 → g2.1 b = g1.1 b := fun b x1 x2 x3 => by
    rw [hg2, sI_off _ x1, sI_off _ x3, sI_off _ x3, sI_off _ x2, sI_off _ x2, sI_off _ x1, sI_off _ x1, sI_off _ x1]
  have d1 : g2.1 D 1 = 0 := by
    rw [hg2, sI_at, upd_off _ _ (by omega), sI_off _ (by omega), sI_off _ (by omega), sI_off _ (by omega), sI_off _ (by omega), sI_at, upd_off _ _ (by omega), sI_at, upd_off _ _ (by omega), sI_at, upd_at]
  have d3 : g2.1 D 3 = 0 := by
    rw [hg2, sI_at, upd_off _ _ (by omega), sI_off _ (by omega), sI_off _ (by omega), sI_off _ (by omega), sI_off _ (by omega), sI_at, upd_off _ _ (by omega), sI_at, upd_at]
  have d5 : g2.1 D 5 = 0 := by
    rw [hg2, sI_at, upd_off _ _ (by omega), sI_off _ (by omega), sI_off _ (by omega), sI_off _ (by omega), sI_off _ (by omega), sI_at, upd_at]
  have d8 : g2.1 D 8 = 0 := by rw [hg2, sI_at, upd_at]
  have r83 : g2.1 (D + 8) 2 = 0 := by
    rw [hg2, sI_off _ (by omega), sI_off _ (by omega), sI_off _ (by omega), sI_at, upd_off _ _ (by omega), sI_at, upd_at]
  have r84 : g2.1 (D + 8) 3 = 0 := by
    rw [hg2, sI_off _ (by omega), sI_off _ (by omega), sI_off _ (by omega), sI_at, upd_at]
  have r103 : g2.1 (D + 10) 2 = 0 := by
    rw [hg2, sI_off _ (by omega), sI_at, upd_off _ _ (by omega), sI_at, upd_at]
  have r104 : g2.1 (D + 10) 3 = 0 := by
    rw [hg2, sI_off _ (by omega), sI_at, upd_at]
  have J2 : g2.2 = g1.2 := by rw [hg2]; rfl
  clear hg2
  have x2 : ctx g2 T := by
    refine ⟨by rw [o2 1001 (by omega) (by omega) (by omega), v1, hT], by omega, fun i hi => ?_⟩
    rw [o2 1002 (by omega) (by omega) (by omega), q1 1002 (by omega)]
    exact hx i (by omega)
  refine c_advance x2 (b := 0) (Nat.zero_le _) (by rw [o2 1001 (by omega) (by omega) (by omega)]; exact v4) (fun g3 f3 c3 => ?_)
  have tw := tkn_w (T := T) (b := 0) (Nat.zero_le _)
  have S3 : csy g3 T D (tkn T 0) y0 [] := by
    have o3 : ∀ b, ¬ b = 1001 → g3.1 b = g2.1 b := f3.1
    refine ⟨⟨c3, tw.1, ⟨hD', by rw [f3.2.2, J2]; exact R1⟩, ⟨by rw [o3 D (by omega)]; exact d5, fun j c hj => by cases hj⟩, Nat.zero_le _⟩, ⟨⟨Nat.zero_le _, fun q h => by cases h⟩, ⟨Nat.zero_le _, fun v h => by cases h⟩, ⟨fun h => absurd rfl h, fun h => absurd rfl h⟩, Nat.zero_le _⟩, ⟨by rw [o3 D (by omega)]; exact d1, fun i q h => by cases h⟩, ⟨by rw [o3 D (by omega)]; exact d3, fun j v h => by cases h⟩, ⟨⟨by rw [o3 (D + 8) (by omega)]; exact r83, by rw [o3 (D + 8) (by omega)]; exact r84, fun h => absurd rfl h⟩, ⟨by rw [o3 (D + 10) (by omega)]; exact r103, by rw [o3 (D + 10) (by omega)]; exact r104, fun h => absurd rfl h⟩⟩, by rw [o3 D (by omega)]; exact d8⟩
  have F3 : txf D g g3 := ⟨fun b x1 x2 => ⟨by rw [f3.1 b x2, o2 b (by omega) (by omega) (by omega), q1 b x2], by rw [f3.2.2, J2, qJ]⟩, by rw [f3.2.1 1 (by omega), o2 1001 (by omega) (by omega) (by omega)]; exact vT, by rw [f3.2.2, J2, qJ]⟩
  have main : ∀ f i t1 y1 g4 L4, i + f = 701 → lnf D g3 g4 → csy g4 T D t1 y1 L4 → cOr T D g e k (plines T f y1 t1) → hwi (d + 61) zm_X3_read k X 45 [(0, .ref 1001), (2, .int (nI i))] g4 e := by
    have fo : ∀ g4, lnf D g3 g4 → txf D g g4 := fun g4 f4 => ⟨fun b x1 x2 => ⟨by rw [f4.1 b x1 x2]; exact (F3.1 b x1 x2).1, by rw [f4.2.2.1 b x1]; exact (F3.1 b x1 x2).2⟩, by rw [f4.2.1 1 (by omega)]; exact F3.2.1, by rw [f4.2.2.2]; exact F3.2.2⟩
    intro f
    induction f with
    | zero =>
      intro i t1 y1 g4 L4 hi f4 S4 H
      have o1 := fo g4 f4
      exact zh_X3_read_45 (zbr_t (by rw [show (700 : Int32) = nI 700 from rfl]; exact nI_lt (by omega) (by omega)) (H g4 t1 L4 o1 S4))
    | succ f ih =>
      intro i t1 y1 g4 L4 hi f4 S4 H
      have o1 := fo g4 f4
      have w4 := S4.1.2.1.2.2.2.1
      refine zh_X3_read_45 (zbr_f (by rw [show (700 : Int32) = nI 700 from rfl]; exact nI_nlt (by omega) (by omega)) ?_)
      rw [S4.1.1.2.1]
      unfold plines at H
      by_cases c0 : t1.1 = 0
      · rw [if_pos c0] at H
        exact zbr_t (by rw [c0]; rfl) (H g4 t1 L4 o1 S4)
      · rw [if_neg c0] at H
        refine zbr_f (nI_ne0 (by omega) (by omega)) (c_line S4 c0 ?_)
        have gp := pline_gd S4.1.2.1 c0 S4.2.1
        cases hq : pline T y1 t1 with
        | inl q =>
          rw [hq] at H
          refine fun g5 L5 f5 S5 => zbr_f (by decide) ?_
          rw [nI_1]
          exact ih (i + 1) q.1 q.2 g5 L5 (by omega) (f4.trans f5) S5 H
        | inr q =>
          rw [hq] at H gp
          intro g5 f5 b5
          have o3 := fo g5 (f4.trans f5)
          refine zbr_t rfl ?_
          rw [b5.1]
          exact H g5 o3 b5 (nI_ne0 (by have := gp.1; omega) (by have := gp.2.1; omega))
  exact main 701 0 _ y0 g3 [] rfl lnf.refl S3 H
theorem cdr_y {t' : tok} (hy : csy g T D t' y L) (h4 : g.2.2 1000 2 = D) : cdr g D (yX y) := by
  obtain ⟨⟨h1, h2, h3, h4', h5⟩, wf, hz, hst, hr, h8⟩ := hy
  have hD' := h3.1
  have hl := hD_lt hD'
  obtain ⟨u8, u10⟩ := hD_us hD'
  have lb : t'.2.1 ≤ 700 := by have := h2.1; have := h2.2.1; have := h1.1.2.1; omega
  have rl : ∀ u l, hus u = D + 7 → crul g u l L → (l ≠ [] → wft l 0) → rule1 g u l := by
    intro u l hu h hw
    refine ⟨h.1, h.2.1, fun hn => ⟨?_, hw hn⟩⟩
    obtain ⟨f, k1, k2, k3, k4⟩ := h.2.2 hn
    refine ⟨f, f + l.length, k1, k2, rfl, by omega, fun j w hj => ?_⟩
    rw [hu]
    exact h4'.2 (f + j) w (k4 j w hj)
  refine ⟨⟨hD', h4⟩, ⟨hz.1, wf.1.1⟩, fun i hi => ?_, ⟨hst.1, wf.2.1.1, hst.2, wf.2.1.2⟩, ⟨rl _ _ u8 hr.1 wf.2.2.1.1, rl _ _ u10 hr.2 wf.2.2.1.2⟩, h8, by show 0 ≤ 999; omega⟩
  have hi : i < y.1.length := hi
  have gi : y.1[i]? = some y.1[i] := List.getElem?_eq_getElem hi
  obtain ⟨z1, z2⟩ := hz.2 i _ gi
  have e1 : (yX y).2.1 i = zfin y.1[i] := by
    show zfin (y.1.getD i (0, [], [])) = _
    rw [List.getD_eq_getElem?_getD, gi]
    rfl
  rw [e1]
  refine ⟨z1, sok_fin (wf.1.2 _ (List.getElem_mem hi)), ?_⟩
  rw [show (zg g (D + 2 + i)).2.2.2.2.2.2 = 0 from z2]
  exact hv_0 _ _
theorem csy_cg {g' : hG} {t' : tok} (hs : csy g T D t' y L) (h0 : ∀ b, D ≤ b ∧ b ≤ D + 11 → g'.1 b = g.1 b ∧ g'.2.1 b = g.2.1 b) (h6 : g'.1 1001 = g.1 1001) (h1 : g'.1 1002 = g.1 1002) (h7 : g'.2.2 1001 = g.2.2 1001) : csy g' T D t' y L := by
  obtain ⟨⟨a1, a2, a3, a4, a5⟩, wf, hz, hst, hr, h8⟩ := hs
  have q : ∀ b, D ≤ b ∧ b ≤ D + 11 → g'.1 b = g.1 b := fun b hb => (h0 b hb).1
  refine ⟨⟨cps_cg h6 h1 a1, a2, ⟨a3.1, by rw [h7]; exact a3.2⟩, by rw [q D (by omega), q (D + 7) (by omega)]; exact a4, a5⟩, wf, ⟨by rw [q D (by omega)]; exact hz.1, fun j z hj => ?_⟩, by unfold cds; rw [q D (by omega), q (D + 6) (by omega)]; exact hst, ⟨by unfold crul; rw [q (D + 8) (by omega)]; exact hr.1, by unfold crul; rw [q (D + 10) (by omega)]; exact hr.2⟩, by rw [q D (by omega)]; exact h8⟩
  have hjl := (List.getElem?_eq_some_iff.mp hj).1
  have := wf.1.1
  rw [show zg g' (D + 2 + j) = zg g (D + 2 + j) from zg_cg (q _ (by omega)) (h0 _ (by omega)).2, q (D + 2 + j) (by omega)]
  exact hz.2 j z hj
theorem cs_drawer (hc : RC g D s) (hr : hrm e) {n : Int32} (H : ∀ g' D2, cfr g g' → RC g' D2 (r_drawer s n).2 → oc (r_drawer s n).1 k X g' e) : hci (d + 63) 146 [.ref 1000, .int n] g e k X := by
  obtain ⟨h1, h2, h3, h4, h5, h6⟩ := id hc
  have hD' := h1.1.1
  have hl := hD_lt hD'
  obtain ⟨t1, t2, t3⟩ := h5
  obtain ⟨E, hE⟩ : ∃ E, E = 2018 - D := ⟨_, rfl⟩
  have hE' : hD E := by rw [hE]; rcases hD' with rfl | rfl; exact .inr rfl; exact .inl rfl
  have hEl := hD_lt hE'
  have dis : D + 12 ≤ E ∨ E + 12 ≤ D := by rcases hD' with rfl | rfl <;> omega
  rw [← hE] at h2
  have out : ¬ isz (s.2.2.2.1.1 + 1) n → X 0 g (hth e) := by
    intro q
    have e1 : r_drawer s n = (.inr 0, s) := by unfold r_drawer; rw [iszb_f (by omega) q]; rfl
    rw [e1] at H
    exact H g D cfr.refl hc
  refine zh_X7_drawer ⟨fun c => ⟨hr, out (isz_not (by omega) (.inl c))⟩, fun c => zh_X3_tapeLength ?_⟩
  rw [t1]
  refine ⟨fun c2 => ?_, fun c2 => ⟨hr, out (fun q => ?_)⟩⟩
  · rcases isz_or (show s.2.2.2.1.1 + 1 < 2 ^ 31 by omega) n with q | q | q
    case inr.inl => exact absurd q c
    case inr.inr =>
      exfalso
      have a1 := Int32.le_iff_toInt_le.mp q
      have a2 := Int32.le_iff_toInt_le.mp c2
      rw [nI_toInt (by omega)] at a1 a2
      omega
    obtain ⟨m, hm, rfl⟩ := q
    have em : (nI m).toNatClampNeg = m := nI_clamp (by omega)
    unfold r_drawer at H
    rw [iszb_t (by omega) hm, em, if_pos rfl] at H
    refine c_readText (T := yT s m) (n := m) hE' h2 (by omega) rfl (fun i hi => t3 i (by omega)) ?_
    cases hq : plines (yT s m) 701 y0 (tkn (yT s m) 0) with
    | inr q =>
      rw [hq] at H
      intro g2 F2 b2 nz
      refine zbr_f nz (zh_X3_faultAt ?_)
      rw [b2.2]
      have w : ∀ b, ¬ (E ≤ b ∧ b ≤ E + 11) → ¬ b = 1001 → ¬ b = 1000 → (sI g2 1000 1 (nI q.2)).1 b = g.1 b := fun b x1 x2 x3 => by rw [sI_off _ x3]; exact (F2.1 b x1 x2).1
      have w0 : ∀ k, ¬ k = 1 → (sI g2 1000 1 (nI q.2)).1 1000 k = g.1 1000 k := fun k x1 => by rw [sI_at, upd_off _ _ x1, (F2.1 1000 (by omega) (by omega)).1]
      have wJ : ∀ b, ¬ (E ≤ b ∧ b ≤ E + 11) → ¬ b = 1001 → (sI g2 1000 1 (nI q.2)).2.1 b = g.2.1 b := fun b x1 x2 => (F2.1 b x1 x2).2
      have wR : (sI g2 1000 1 (nI q.2)).2.2 = g.2.2 := F2.2.2
      have S1 : RC (sI g2 1000 1 (nI q.2)) D (s.1, s.2.1, s.2.2.1, (0, s.2.2.2.1.2), nI q.2) := by
        refine ⟨cdr_cg (g := g) (fun b hb => w b (by omega) (by omega) (by omega)) (fun b hb => wJ b (by omega) (by omega)) (by rw [wR]) h1, by rw [wR, ← hE]; exact h2, cbk_cg (w _ (by omega) (by omega) (by omega)) (wJ _ (by omega) (by omega)) (w _ (by omega) (by omega) (by omega)) (w _ (by omega) (by omega) (by omega)) h3, ckp_cg (w0 5 (by omega)) (w _ (by omega) (by omega) (by omega)) (wJ _ (by omega) (by omega)) (w _ (by omega) (by omega) (by omega)) (w _ (by omega) (by omega) (by omega)) (wJ _ (by omega) (by omega)) h4, ⟨?_, Nat.zero_le _, fun i hi => absurd hi (Nat.not_lt_zero _)⟩, ?_⟩
        · rw [sI_off _ (by omega)]; exact F2.2.1
        · rw [sI_at, upd_at]
      have cf : cfr g (sI g2 1000 1 (nI q.2)) := fun b hb => ⟨w b (by omega) (by omega) (by omega), wJ b (by omega) (by omega), by rw [wR]⟩
      exact c_refuse (j := 0) S1 (by omega) (fun g' f' r' => H g' D (cf.trans f') r')
    | inl y =>
      rw [hq] at H
      intro g2 t' L' F2 S2
      have r4 : (sI g2 1000 1 (-1)).2.2 1000 2 = D := by show g2.2.2 1000 2 = D; rw [F2.2.2]; exact h1.1.2
      have r5 : (sI g2 1000 1 (-1)).2.2 1001 7 = E := by show g2.2.2 1001 7 = E; rw [F2.2.2]; exact h2
      rw [r4]
      refine zbr_t rfl ⟨hD', zh_X3_exchange hD' ?_⟩
      rw [r5]
      refine ⟨hE', hE', zh_X0_dropActs (Or.inl rfl) (zh_X0_dropNotes (Or.inl rfl) ?_)⟩
      have G : ∃ g8, g8 = sI (sI (sI (sR (sR (sI g2 1000 1 (-1)) 1001 7 D) 1000 2 E) 1027 1 0) 1027 3 0) 1000 5 0 := ⟨_, rfl⟩
      obtain ⟨g8, hg8⟩ := G
      rw [← hg8]
      have q1 : ∀ b, ¬ b = 1000 → ¬ b = 1027 → g8.1 b = g2.1 b := fun b x1 x2 => by
        rw [hg8, sI_off _ x1, sI_off _ x2, sI_off _ x2]
        show (sI g2 1000 1 (-1)).1 b = _
        rw [sI_off _ x1]
      have qJ : g8.2.1 = g2.2.1 := by rw [hg8]; rfl
      have qR : ∀ b, ¬ b = 1000 → ¬ b = 1001 → g8.2.2 b = g2.2.2 b := fun b x1 x2 => by
        rw [hg8]
        show (sR (sR (sI g2 1000 1 (-1)) 1001 7 D) 1000 2 E).2.2 b = _
        rw [sR_off _ x1, sR_off _ x2]
        rfl
      have v4 : g8.2.2 1000 2 = E := by
        rw [hg8]
        show (sR (sR (sI g2 1000 1 (-1)) 1001 7 D) 1000 2 E).2.2 1000 2 = _
        rw [sR_at]
      have v5 : g8.2.2 1001 7 = D := by
        rw [hg8]
        show (sR (sR (sI g2 1000 1 (-1)) 1001 7 D) 1000 2 E).2.2 1001 7 = _
        rw [sR_off _ (by omega), sR_at]
      have u1 : g8.1 1001 1 = 0 := by rw [q1 1001 (by omega) (by omega)]; exact F2.2.1
      have u3 : g8.1 1000 1 = -1 := by
        rw [hg8, sI_at, upd_off _ _ (by omega), sI_off _ (by omega), sI_off _ (by omega)]
        show (sI g2 1000 1 (-1)).1 1000 1 = _
        rw [sI_at, upd_at]
      have u8 : g8.1 1000 5 = 0 := by rw [hg8, sI_at, upd_at]
      have n1 : g8.1 1027 1 = 0 := by rw [hg8, sI_off _ (by omega), sI_at, upd_off _ _ (by omega), sI_at, upd_at]
      have n3 : g8.1 1027 3 = 0 := by rw [hg8, sI_off _ (by omega), sI_at, upd_at]
      clear hg8
      have C9 : cdr (sR g2 1000 2 E) E (yX y) := cdr_y (csy_cg (g' := sR g2 1000 2 E) S2 (fun b hb => ⟨rfl, rfl⟩) rfl rfl (sR_off _ (by omega))) (sR_at ..)
      have C8 : cdr g8 E (yX y) := cdr_cg (g := sR g2 1000 2 E) (fun b hb => q1 b (by omega) (by omega)) (fun b hb => by rw [qJ]; rfl) (by rw [v4, sR_at]) C9
      refine H g8 E (fun b hb => ⟨by rw [q1 b (by omega) (by omega)]; exact (F2.1 b (by omega) (by omega)).1, by rw [qJ]; exact (F2.1 b (by omega) (by omega)).2, by rw [qR b (by omega) (by omega), F2.2.2]⟩) ⟨C8, by rw [v5, hE]; omega, ⟨⟨n1, Nat.zero_le _, fun i P h => by cases h⟩, ⟨⟨n3, fun i w h => by cases h⟩, Nat.zero_le _, fun w h => by cases h⟩, fun j hj => ?_⟩, u8, ⟨u1, Nat.zero_le _, fun i hi => absurd hi (Nat.not_lt_zero _)⟩, u3⟩
      rw [q1 (1027 + 3) (by omega) (by omega), (F2.1 (1027 + 3) (by omega) (by omega)).1]
      exact h3.2.2 j hj
  · obtain ⟨m, hm, rfl⟩ := q
    exact c2 (nI_le (by omega) (by omega))
end
