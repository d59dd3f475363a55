def gK (A B a : Nat) : Int32 := ((2 * nI A) - nI B) - (3 * nI a)
theorem gK_i {A B a : Nat} (hA : A ≤ 63) (hB : B ≤ 63) (ha : a ≤ 1) : (gK A B a).toInt = 2 * (A : Int) - B - 3 * a := by
  have e : gK A B a = nI (2 * A) - nI (B + 3 * a) := by
    unfold gK
    rw [show (2 : Int32) = nI 2 from rfl, show (3 : Int32) = nI 3 from rfl, pk_mul, pk_mul, ← nI_add]
    simp only [Int32.sub_eq_add_neg, Int32.neg_add]
    ac_rfl
  rw [e, pk_sub_toInt (by omega) (by omega)]
  omega
theorem c_d2 : ∀ c, c < 4 → nI c / 2 = nI (c / 2) ∧ nI c - nI c / 2 * 2 = nI (c % 2) := by decide +kernel
theorem c_x2 : ∀ c, c < 4 → (nI c ^^^ 2 = nI (2 * (1 - c / 2) + c % 2)) ∧ (nI c ^^^ 1 = nI (2 * (c / 2) + (1 - c % 2))) := by decide +kernel
theorem ix2 (c : Nat) : (2 : Int32) * nI c = nI (2 * c) := by rw [show (2 : Int32) = nI 2 from rfl, pk_mul]
def gRow (A B : Nat → Nat) (g : hG) (n : Nat) : Prop := ∀ c, c < n → g.1 1080 (2 * c) = gK (A (c / 2)) (B (c % 2)) (c / 2) ∧ g.1 1080 (2 * c + 1) = gK (B (c % 2)) (A (c / 2)) (c % 2)
theorem gRow_cg {A B : Nat → Nat} {g g' : hG} {n : Nat} (h : gRow A B g n) (e : g'.1 1080 = g.1 1080) : gRow A B g' n := fun c hc => by rw [e]; exact h c hc
section
variable {d : Nat} {k : Int32 → hG → hE → Prop} {kv : hG → hE → Prop} {X : Nat → hG → hE → Prop} {g g0 g1 : hG} {e : hE} {D : Nat} {x : sX} {f : Nat → Int32} {zs : Nat → sZ}
theorem cm_tellGains (hm : mdr g x) (hc : g.1 1046 4 = 0) {i j : Nat} (hi : i < x.1) (hj : j < x.1) (hne : ¬ i = j) (H : ∀ g', fr qL qF g g' → mdr g' x → g'.1 1046 4 = 0 → gRow (gA x i) (gA x j) g' 4 → kv g' e) : hcv (d + 8) 324 [.ref 1046, .int (nI i), .int (nI j)] g e kv X := by
  have h4 := hm.1.1.2
  have ht := hm.2.2.2.2
  have osi := (hm.1.2 i hi).2
  have osj := (hm.1.2 j hj).2
  have ei : (nI i).toNatClampNeg = i := nI_clamp (by omega)
  have ej : (nI j).toNatClampNeg = j := nI_clamp (by omega)
  have hi4 : hin (nI i) 4 := nI_in (by omega) (by omega)
  have hj4 : hin (nI j) 4 := nI_in (by omega) (by omega)
  have hi8 : hin (nI i) 8 := nI_in (by omega) (by omega)
  have hj8 : hin (nI j) 8 := nI_in (by omega) (by omega)
  refine zh_X8_tellGains (sim_begin hm hc (fun f s0 => ?_))
  have : ∀ c, c ≤ 4 → ∀ g1, sim g x f g1 x.2.1 x.2.2.2.2.2 → mdr g1 x → gRow (gA x i) (gA x j) g1 c → hwv (d + 7) zm_X8_tellGains kv X 11 [(0, .ref 1046), (1, .int (nI i)), (2, .int (nI j)), (3, .int (nI c))] g1 e := by
    refine hdown ?_ ?_
    · intro g1 s1 m1 r1
      exact zh_X8_tellGains_11 (zbr_t (by decide) (H g1 s1.2.1.1 m1 s1.2.1.2.2 r1))
    · intro c hc W g1 s1 m1 r1
      obtain ⟨d1, d2⟩ := c_d2 c hc
      have go : ∀ g2 zs, sim g x f g2 zs x.2.2.2.2.2 → zs i = sa (x.2.1 i) (c / 2) → zs j = sa (x.2.1 j) (c % 2) → g2.1 1080 = g1.1 1080 → hwv (d + 7) zm_X8_tellGains kv X 52 [(0, .ref 1046), (1, .int (nI i)), (2, .int (nI j)), (3, .int (nI c))] g2 e := by
        intro g2 zs s2 zi zj e2
        refine zh_X8_tellGains_52 (sim_goOn (n := 6) s2 (by omega) (fun g3 s3 _ f3 => ⟨hi4, ?_⟩))
        have ci := s3.2.2.1.2 i hi
        have cj := s3.2.2.1.2 j hj
        have xi : jbc (g3.1 1063 i) = nI (gA x i (c / 2)) := by
          rw [ci.1.2.2.2.2.1]
          show xcb x 6 (zs i) = _
          rw [zi]
          exact (xcb_n (sok_sa osi _)).1
        have xj : jbc (g3.1 1063 j) = nI (gA x j (c % 2)) := by
          rw [cj.1.2.2.2.2.1]
          show xcb x 6 (zs j) = _
          rw [zj]
          exact (xcb_n (sok_sa osj _)).1
        have Ci : ∃ v, v < 65536 ∧ g3.1 1063 i = nI v := by rw [ci.1.2.2.2.2.1]; exact sok_C ci.2
        have Cj : ∃ v, v < 65536 ∧ g3.1 1063 j = nI v := by rw [cj.1.2.2.2.2.1]; exact sok_C cj.2
        rw [ei, ej, d2, d1, ix2, nI_1 (2 * c), nI_clamp (show 2 * c < 2 ^ 31 by omega), nI_clamp (show 2 * c + 1 < 2 ^ 31 by omega)]
        refine cm_bitsC Ci ⟨hj4, cm_bitsC Cj ⟨nI_in (by omega) (by omega), hj4, cm_bitsC Cj ⟨hi4, cm_bitsC Ci ⟨nI_in (by omega) (by omega), ?_⟩⟩⟩⟩
        rw [show (sI g3 1080 (2 * c) _).1 1063 j = g3.1 1063 j from rfl, show (sI g3 1080 (2 * c) _).1 1063 i = g3.1 1063 i from rfl, xi, xj]
        obtain ⟨g4, e4⟩ : ∃ g4, g4 = sI (sI g3 1080 (2 * c) (2 * nI (gA x i (c / 2)) - nI (gA x j (c % 2)) - 3 * nI (c / 2))) 1080 (2 * c + 1) (2 * nI (gA x j (c % 2)) - nI (gA x i (c / 2)) - 3 * nI (c % 2)) := ⟨_, rfl⟩
        rw [← e4]
        have f4 : fr [1080] [] g3 g4 := by rw [e4]; exact (fr.refl.I (by decide) (by decide)).I (by decide) (by decide)
        have s4 := sim_fr s3 f4 (by decide)
        refine sim_end s4 (fun g5 f5 m5 c5 u5 => ?_)
        rw [nI_1]
        refine W g5 (sim_again s4 f5 m5 c5 u5) m5 ?_
        have r5 : g5.1 1080 = g4.1 1080 := u5.1 1080 (by decide) (by decide)
        have r3 : g3.1 1080 = g1.1 1080 := by rw [f3.1 1080 (by decide) (by decide), e2]
        have r4 : g4.1 1080 = upd (upd (g3.1 1080) (2 * c) (gK (gA x i (c / 2)) (gA x j (c % 2)) (c / 2))) (2 * c + 1) (gK (gA x j (c % 2)) (gA x i (c / 2)) (c % 2)) := by
          rw [e4, sI_at, sI_at]
          rfl
        intro c' hc'
        rw [r5, r4]
        by_cases z : c' = c
        · subst z
          rw [upd_off _ _ (by omega), upd_at, upd_at]
          exact ⟨rfl, rfl⟩
        · rw [upd_off _ _ (by omega), upd_off _ _ (by omega), upd_off _ _ (by omega), upd_off _ _ (by omega), r3]
          exact r1 c' (by omega)
      refine zh_X8_tellGains_11 (zbr_f (nI_ge (b := 4) hc (by omega)) ?_)
      rw [d2, d1, ei, ej]
      have n1 : g1.1 1052 i = nI (x.2.1 i).1 := (m1.1.2 i hi).1.1
      have n2 : g1.1 1052 j = nI (x.2.1 j).1 := (m1.1.2 j hj).1.1
      refine ⟨fun ca => ⟨hi8, ?_⟩, fun ca => ⟨fun cb => ⟨hj8, ?_⟩, fun cb => ?_⟩⟩
      · have ea : c / 2 = 1 := (nI_eq (b := 1) (by omega) (by omega)).mp ca
        rw [n1]
        refine sim_slide s1 hi (Nat.le_refl _) (fun g2 s2 f2 => ⟨fun cb => ⟨hj8, ?_⟩, fun cb => ?_⟩)
        · have eb : c % 2 = 1 := (nI_eq (b := 1) (by omega) (by omega)).mp cb
          rw [f2.1 1052 (by decide) (by decide), n2]
          refine sim_slide s2 hj (by rw [va_up_off _ _ (fun z => hne z.symm)]; exact Nat.le_refl _) (fun g3 s3 f3 => go g3 _ s3 ?_ ?_ ?_)
          · rw [va_up_off _ _ hne, va_up_at]; exact (if_pos ea).symm
          · rw [va_up_at, va_up_off _ _ (fun z => hne z.symm)]; exact (if_pos eb).symm
          · rw [f3.1 1080 (by decide) (by decide), f2.1 1080 (by decide) (by decide)]
        · have eb : ¬ c % 2 = 1 := fun z => cb (by rw [z]; rfl)
          refine go g2 _ s2 ?_ ?_ (f2.1 1080 (by decide) (by decide))
          · rw [va_up_at]; exact (if_pos ea).symm
          · rw [va_up_off _ _ (fun z => hne z.symm)]; exact (if_neg eb).symm
      · have ea : ¬ c / 2 = 1 := fun z => ca (by rw [z]; rfl)
        have eb : c % 2 = 1 := (nI_eq (b := 1) (by omega) (by omega)).mp cb
        rw [n2]
        refine sim_slide s1 hj (Nat.le_refl _) (fun g2 s2 f2 => go g2 _ s2 ?_ ?_ (f2.1 1080 (by decide) (by decide)))
        · rw [va_up_off _ _ hne]; exact (if_neg ea).symm
        · rw [va_up_at]; exact (if_pos eb).symm
      · have ea : ¬ c / 2 = 1 := fun z => ca (by rw [z]; rfl)
        have eb : ¬ c % 2 = 1 := fun z => cb (by rw [z]; rfl)
        exact go g1 _ s1 (if_neg ea).symm (if_neg eb).symm rfl
  exact this 0 (Nat.zero_le _) _ s0 (mdr_fr (L := [1070]) (F := []) (fr_aI (by decide) (by decide)) (by decide) (by decide) hm) (fun c h => absurd h (by omega))
theorem gq_a {A : Nat → Nat} {B a : Nat} (h0 : A 0 ≤ 63) (h1 : A 1 ≤ 63) (hB : B ≤ 63) (ha : a < 2) : (gK (A a) B a < gK (A (1 - a)) B (1 - a)) ↔ gq A a = false := by
  have b : ∀ a, a < 2 → A a ≤ 63 := fun a h => match a, h with
    | 0, _ => h0
    | 1, _ => h1
    | a + 2, h => absurd h (by omega)
  rw [Int32.lt_iff_toInt_lt, gK_i (b a ha) hB (by omega), gK_i (b (1 - a) (by omega)) hB (by omega)]
  unfold gq
  match a, ha with
  | 0, _ =>
    rw [if_neg (by decide), decide_eq_false_iff_not]
    show 2 * (A 0 : Int) - B - 3 * (0 : Nat) < 2 * (A 1 : Int) - B - 3 * (1 : Nat) ↔ _
    omega
  | 1, _ =>
    rw [if_pos rfl, decide_eq_false_iff_not]
    show 2 * (A 1 : Int) - B - 3 * (1 : Nat) < 2 * (A 0 : Int) - B - 3 * (0 : Nat) ↔ _
    omega
  | a + 2, h => exact absurd h (by omega)
theorem sgm_0 {rA rB : Nat → Bool} : ∀ c, c ≤ 4 → ((sgm rA rB c).1 = 0 ∧ (sgm rA rB c).2 = -1) ∨ ∃ v w, 0 < v ∧ v ≤ c ∧ w ≤ 100 ∧ (sgm rA rB c).1 = nI v ∧ (sgm rA rB c).2 = nI w
  | 0, _ => .inl ⟨rfl, rfl⟩
  | c + 1, hc => by
    have ih := sgm_0 (rA := rA) (rB := rB) c (by omega)
    unfold sgm
    by_cases h : rA (c / 2) = true ∧ rB (c % 2) = true
    · rw [if_pos h]
      rcases ih with ⟨a, b⟩ | ⟨v, w, h1, h2, h3, h4, h5⟩
      · refine .inr ⟨1, 10 * (c / 2) + c % 2, by omega, by omega, by omega, ?_, ?_⟩
        · show (sgm rA rB c).1 + 1 = _; rw [a]; rfl
        · show (if (sgm rA rB c).1 = 0 then _ else _) = _; rw [if_pos a]
      · refine .inr ⟨v + 1, w, by omega, by omega, h3, ?_, ?_⟩
        · show (sgm rA rB c).1 + 1 = _; rw [h4, nI_1]
        · show (if (sgm rA rB c).1 = 0 then _ else _) = _
          rw [if_neg (fun z => by rw [h4] at z; have := (nI_eq (b := 0) (by omega) (by omega)).mp z; omega)]
          exact h5
    · rw [if_neg h]
      rcases ih with ih | ⟨v, w, h1, h2, h3⟩
      · exact .inl ih
      · exact .inr ⟨v, w, h1, by omega, h3⟩
theorem mq_game (hm : mdr g x) {z y w : Int32} (H : ∀ g' u, fr qL qF g g' → mdr g' x → om c12 (o_game x z y w) u g' → k u g' e) : hci (d + 9) 325 [.ref 1046, .int z, .int y, .int w] g e k X := by
  have h4 := hm.1.1.2
  have hm0 : mdr (sI g 1046 4 0) x := mdr_code hm
  refine zh_X8_game (cm_isZip hm0.1.1.1 h4 (fun i hi hz => zbr_f (by decide) ?_) (fun h => zbr_t rfl (cm_failQ (cd := c12) (n := 1) hm0 fr_code (o_game_n h4 (.inl h)) H)))
  refine cm_isZip hm0.1.1.1 h4 (fun j hj hy => zbr_f (by decide) ?_) (fun h => zbr_t rfl (cm_failQ (cd := c12) (n := 1) hm0 fr_code (o_game_n h4 (.inr (.inl h))) H))
  refine cm_isInR (a := 0) (b := 1) (by omega) (by omega) (by decide) (by decide) (fun w _ hw hw' => zbr_f (by decide) ?_) (fun h => zbr_t rfl (cm_failQ (cd := c12) (n := 1) hm0 fr_code (o_game_n h4 (.inr (.inr (fun z => h (by obtain ⟨i, hi, e⟩ := z; exact ⟨i, by omega, by omega, e⟩))))) H))
  subst hz
  subst hy
  subst hw'
  have hv := o_game_y h4 hi hj (show w < 2 by omega)
  refine ⟨fun c => cm_failQ (cd := c12) (n := 0) hm0 fr_code (by rw [hv, if_pos c]) H, fun c => ?_⟩
  rw [if_neg c] at hv
  have bi : ∀ a, gA x i a ≤ 63 := fun a => (xcb_n (sok_sa (hm.1.2 i hi).2 a)).2
  have bj : ∀ a, gA x j a ≤ 63 := fun a => (xcb_n (sok_sa (hm.1.2 j hj).2 a)).2
  refine cm_tellGains hm0 code_at hi hj (fun z => c (by rw [z])) (fun g1 f1 m1 c1 r1 => ?_)
  have fin := H g1 _ (fr_code.trans f1) m1 (om_l hv c1)
  unfold v_game at fin
  clear hv H m1 f1 hm0
  generalize gA x i = A at *
  generalize gA x j = B at *
  refine hdown (W := fun t => hwi (d + 8) zm_X8_game k X 63 [(0, .ref 1046), (3, .int (nI w)), (4, .int (sgm (gq A) (gq B) t).1), (5, .int (sgm (gq A) (gq B) t).2), (6, .int (nI t))] g1 e) (n := 4) ?_ ?_ 0 (Nat.zero_le _)
  · refine zh_X8_game_63 (zbr_t (by decide) ⟨fun c => ?_, fun c => ?_⟩)
    · rw [if_pos ((nI_eq (b := 0) (by omega) (by omega)).mp c)] at fin
      exact fin
    · rw [if_neg (fun z => c (by rw [z]; rfl))] at fin
      exact fin
  · intro t ht W
    obtain ⟨d1, d2⟩ := c_d2 t ht
    obtain ⟨x1, x2⟩ := c_x2 t ht
    have un : sgm (gq A) (gq B) (t + 1) = if gq A (t / 2) = true ∧ gq B (t % 2) = true then ((sgm (gq A) (gq B) t).1 + 1, if (sgm (gq A) (gq B) t).1 = 0 then nI (10 * (t / 2) + t % 2) else (sgm (gq A) (gq B) t).2) else sgm (gq A) (gq B) t := rfl
    rw [un, ← nI_1 t] at W
    refine zh_X8_game_63 (zbr_f (nI_ge (b := 4) ht (by omega)) ?_)
    rw [d2, d1, x1, x2, ix2, ix2, ix2, nI_1 (2 * t), nI_1 (2 * (2 * (t / 2) + (1 - t % 2))), nI_clamp (show 2 * t < 2 ^ 31 by omega), nI_clamp (show 2 * t + 1 < 2 ^ 31 by omega), nI_clamp (show 2 * (2 * (1 - t / 2) + t % 2) < 2 ^ 31 by omega), nI_clamp (show 2 * (2 * (t / 2) + (1 - t % 2)) + 1 < 2 ^ 31 by omega), (r1 t ht).1, (r1 t ht).2, (r1 (2 * (1 - t / 2) + t % 2) (by omega)).1, (r1 (2 * (t / 2) + (1 - t % 2)) (by omega)).2, show (2 * (1 - t / 2) + t % 2) / 2 = 1 - t / 2 by omega, show (2 * (1 - t / 2) + t % 2) % 2 = t % 2 by omega, show (2 * (t / 2) + (1 - t % 2)) / 2 = t / 2 by omega, show (2 * (t / 2) + (1 - t % 2)) % 2 = 1 - t % 2 by omega]
    have qa := gq_a (A := A) (B := B (t % 2)) (a := t / 2) (bi 0) (bi 1) (bj _) (by omega)
    have qb := gq_a (A := B) (B := A (t / 2)) (a := t % 2) (bj 0) (bj 1) (bi _) (by omega)
    refine ⟨nI_in (by omega) (by omega), nI_in (by omega) (by omega), fun ca => ?_, fun ca => ⟨nI_in (by omega) (by omega), nI_in (by omega) (by omega), fun cb => ?_, fun cb => ?_⟩⟩
    · rw [if_neg (fun z => by rw [qa.mp ca] at z; exact absurd z.1 (by decide))] at W
      exact W
    · have ga : gq A (t / 2) = true := by
        cases q : gq A (t / 2) with
        | true => rfl
        | false => exact absurd (qa.mpr q) ca
      have gb : gq B (t % 2) = true := by
        cases q : gq B (t % 2) with
        | true => rfl
        | false => exact absurd (qb.mpr q) (Int32.not_lt.mpr cb)
      rw [if_pos ⟨ga, gb⟩] at W
      rw [show (10 : Int32) * nI (t / 2) + nI (t % 2) = nI (10 * (t / 2) + t % 2) by rw [show (10 : Int32) = nI 10 from rfl, pk_mul, nI_add]]
      rcases sgm_0 (rA := gq A) (rB := gq B) t (by omega) with ⟨a, b⟩ | ⟨v, u, h1, h2, h3, h4, h5⟩
      · rw [if_pos a] at W
        exact zbr_t b W
      · rw [if_neg (fun z => by rw [h4] at z; have := (nI_eq (b := 0) (by omega) (by omega)).mp z; omega)] at W
        refine zbr_f ?_ W
        rw [h5]
        exact nI_m1 (by omega)
    · rw [if_neg (fun z => by rw [qb.mp (Int32.not_le.mp cb)] at z; exact absurd z.2 (by decide))] at W
      exact W
end
