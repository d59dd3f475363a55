def dn (y : sY) : Nat := (if y.2.1 = [] then 0 else 1) + ((if y.2.2.1 = [] then 0 else 2) + (if y.2.2.2 = [] then 0 else 4))
def msy (g : hG) (T : sT) (t : tok) (y : sY) : Prop := mps g T t ∧ wtk T t ∧ wfy y t.2.1 ∧ msc g y
section
variable {d : Nat} {k : Int32 → hG → hE → Prop} {kv : hG → hE → Prop} {X : Nat → hG → hE → Prop} {g : hG} {e : hE} {T : sT} {t : tok} {L : List tk} {y : sY}
theorem msc_p {g' : hG} (f : fr [] pF g g') (h : msc g y) : msc g' y := by
  have q : ∀ b, ¬ b = 1046 → g'.1 b = g.1 b := fun b hb => f.1 b (by simp) hb
  unfold msc mzt
  rw [q 1050 (by decide), q 1051 (by decide), q 1052 (by decide), q 1053 (by decide), q 1054 (by decide), q 1055 (by decide), q 1056 (by decide), q 1057 (by decide)]
  exact h
theorem str_bad (h0 : ¬ g.1 1046 22 = 0) (H : ∀ g', mlf g g' → g'.1 1046 22 = g.1 1046 22 → g'.1 1046 23 = g.1 1046 23 → kv g' e) : hwv (d + 1) zm_X8_sayStrain kv X 74 [(0, .ref 1046)] g e := by
  have q : ∀ b, ¬ b = 1050 → (sI g 1050 5 (g.1 1050 5 + 0)).1 b = g.1 b := fun b x1 => sI_off _ x1
  have q6 := q 1046 (by omega)
  refine zh_X8_sayStrain_74 (zbr_f h0 (zh_X8_sayStrain_13 (zbr_f (by rw [q6]; exact h0) (H _ ⟨fun b _ x => q b (by omega), fun k _ => by rw [q6], fun k hk => ⟨by rw [sI_at, upd_off _ _ (by omega)], by rw [q 1051 (by omega)], by rw [q 1052 (by omega)]⟩, fun k _ => by rw [q 1055 (by omega)], fun k _ => ⟨by rw [q 1056 (by omega)], by rw [q 1057 (by omega)]⟩, rfl, fun _ _ => rfl⟩ (by rw [q6]) (by rw [q6])))))
theorem m_sayStrain (hm0 : mps g T t) (hw0 : wtk T t) (hc : msc g y) (he : y.2.1 = []) (Hbad : ∀ q, pstr T 9 t [] = .inr q → ∀ g', mlf g g' → mbd g' q.1 q.2 → kv g' e) (Hok : ∀ t1 s g', mlf g g' → mps g' T t1 → wtk T t1 → msc g' (y.1, s, y.2.2) → ¬ s = [] → pstr T 9 t [] = (if isC T t1 59 = true then .inl (tkn T t1.2.2.1, s) else .inr (1, t1.2.1)) → kv g' e) : hcv (d + 5) 242 [.ref 1046] g e kv X := by
  obtain ⟨V, hV⟩ : ∃ V, V = pstr T 9 t [] := ⟨_, rfl⟩
  rw [← hV] at Hbad Hok
  have w40 := hw0.2.2.2.1
  have main : ∀ f t1 s g1, s.length + f = 9 → s.length ≤ 8 → mlf g g1 → mps g1 T t1 → wtk T t1 → msc g1 (y.1, s, y.2.2) → (s = [] → t1.1 = 2) → pstr T f t1 s = V → hwv (d + 4) zm_X8_sayStrain kv X 13 [(0, .ref 1046)] g1 e := by
    intro f
    induction f with
    | zero =>
      intro t1 s g1 hl h8
      exact absurd hl (by omega)
    | succ f ih =>
      intro t1 s g1 hl h8 f1 m1 w1 c1 hs hp
      unfold pstr at hp
      have w4 := w1.2.2.2.1
      have h22 := m1.2.2.2.2.2.2
      have k5 : g1.1 1050 5 = nI s.length := c1.2.1.1
      refine zh_X8_sayStrain_13 (zbr_t h22 ?_)
      rw [m1.2.1]
      by_cases c2 : t1.1 = 2
      · have nw : ¬ (¬ s = [] ∧ isC T t1 59 = true) := fun z => by rw [(isC_t.mp z.2).1] at c2; exact absurd c2 (by decide)
        rw [if_neg nw, if_neg (not_not_intro c2)] at hp
        refine zbr_t (by rw [c2]; rfl) ?_
        rw [k5]
        have bad : ∀ q, (.inr q : pz) = V → ∀ g3, mlf g1 g3 → mbd g3 q.1 q.2 → hwv (d + 4) zm_X8_sayStrain kv X 74 [(0, .ref 1046)] g3 e := fun q hq g3 f3 b3 => str_bad b3.2.1 (fun g' f' v1 v2 => Hbad q hq.symm g' ((f1.trans f3).trans f') (mbd_m b3 v1 v2))
        by_cases c8 : s.length = 8
        · rw [if_pos (.inr c8)] at hp
          exact zbr_t (by rw [c8]; rfl) (cm_wrong (c := 2) h22 m1.2.2.1 (by decide) (by decide) (fun g4 f4 b4 => zh_X8_sayStrain_44 (cmb_readNumber b4.2.1 (zbr_f b4.2.1 (bad (2, t1.2.1) hp g4 (mlf_p f4) b4)))))
        · refine zbr_f (fun z => c8 ((nI_eq (b := 8) (by omega) (by omega)).mp z)) (zh_X8_sayStrain_44 (cm_readNumber (top := 9) m1 w1 (by omega) (fun _ le g4 f4 m4 => zbr_t m4.2.2.2.2.2.2 ?_) (fun _ le g4 f4 b4 => zbr_f b4.2.1 ?_) (fun c2' => absurd c2 c2')))
          · rw [if_neg (fun z => z.elim (fun z => z le) c8)] at hp
            have c4 := msc_p f4 c1
            have k54 : g4.1 1050 5 = nI s.length := c4.2.1.1
            rw [k54, show (8 : Int32) = nI 8 from rfl, nI_add, nI_clamp (show 8 + s.length < 2 ^ 31 by omega)]
            refine ⟨nI_in (by omega) (by omega), ?_⟩
            have q5 : ∀ b, ¬ b = 1055 → (sI g4 1055 (8 + s.length) (nI t1.2.2.2)).1 b = g4.1 b := fun b x => sI_off _ x
            refine zh_X8_sayStrain_74 (zbr_t (by rw [q5 1046 (by omega)]; exact m4.2.2.2.2.2.2) ?_)
            rw [q5 1050 (by omega), k54, nI_1]
            have q6 : ∀ b, ¬ b = 1055 → ¬ b = 1050 → (sI (sI g4 1055 (8 + s.length) (nI t1.2.2.2)) 1050 5 (nI (s.length + 1))).1 b = g4.1 b := fun b x1 x2 => by rw [sI_off _ x2, q5 b x1]
            have q50 : ∀ k, ¬ k = 5 → (sI (sI g4 1055 (8 + s.length) (nI t1.2.2.2)) 1050 5 (nI (s.length + 1))).1 1050 k = g4.1 1050 k := fun k hk => by rw [sI_at, upd_off _ _ hk, q5 1050 (by omega)]
            have F6 : mlf g4 (sI (sI g4 1055 (8 + s.length) (nI t1.2.2.2)) 1050 5 (nI (s.length + 1))) := ⟨fun b _ x => q6 b (by omega) (by omega), fun k _ => by rw [q6 1046 (by omega) (by omega)], fun k hk => ⟨q50 k (by omega), by rw [q6 1051 (by omega) (by omega)], by rw [q6 1052 (by omega) (by omega)]⟩, fun k hk => by rw [sI_off _ (by omega), sI_at, upd_off _ _ (by omega)], fun k _ => ⟨by rw [q6 1056 (by omega) (by omega)], by rw [q6 1057 (by omega) (by omega)]⟩, rfl, fun _ _ => rfl⟩
            refine ih _ (s ++ [t1.2.2.2]) _ (by rw [List.length_append, List.length_singleton]; omega) (by rw [List.length_append, List.length_singleton]; omega) ((f1.trans (mlf_p f4)).trans F6) ?_ (nx_w w1).1 ⟨⟨?_, fun i w hi => ?_⟩, ⟨?_, fun i v hi => ?_⟩, ?_, ?_⟩ (fun z => absurd z (by simp)) hp
            · unfold mps mtx
              rw [q6 1046 (by omega) (by omega), q6 1059 (by omega) (by omega)]
              exact m4
            · rw [q50 4 (by omega)]; exact c4.1.1
            · unfold mzt
              rw [q6 1051 (by omega) (by omega), q6 1052 (by omega) (by omega), q6 1053 (by omega) (by omega), q6 1054 (by omega) (by omega)]
              exact c4.1.2 i w hi
            · rw [sI_at, upd_at]
              show _ = nI (s ++ [t1.2.2.2]).length
              rw [List.length_append]; rfl
            · rw [sI_off _ (by omega), sI_at]
              have hi : (s ++ [t1.2.2.2])[i]? = some v := hi
              by_cases ci : i = s.length
              · subst ci
                rw [List.getElem?_append_right (Nat.le_refl _), Nat.sub_self] at hi
                rw [upd_at, ← Option.some.inj hi]
              · have hil : i < s.length := by
                  have := (List.getElem?_eq_some_iff.mp hi).1
                  rw [List.length_append] at this
                  have : i < s.length + 1 := this
                  omega
                rw [List.getElem?_append_left hil] at hi
                rw [upd_off _ _ (by omega)]
                exact c4.2.1.2 i v hi
            · show (_ ∧ _)
              rw [q50 6 (by omega), q6 1056 (by omega) (by omega)]; exact c4.2.2.1
            · show (_ ∧ _)
              rw [q50 7 (by omega), q6 1057 (by omega) (by omega)]; exact c4.2.2.2
          · rw [if_pos (.inl le)] at hp
            exact bad (2, t1.2.1) hp g4 (mlf_p f4) b4
      · have sne : ¬ s = [] := fun z => c2 (hs z)
        refine zbr_f (fun z => c2 ((nI_eq (b := 2) (by omega) (by omega)).mp z)) (Hok t1 s g1 f1 m1 w1 c1 sne ?_)
        rw [← hp]
        cases qs : isC T t1 59 with
        | true => rw [if_pos ⟨sne, rfl⟩]; rfl
        | false => rw [if_neg (fun z => absurd z.2 (by decide)), if_pos c2]; rfl
  refine zh_X8_sayStrain ?_
  rw [hm0.2.1]
  by_cases c2 : t.1 = 2
  · refine zbr_t (by rw [c2]; rfl) (main 9 t [] g rfl (Nat.zero_le _) mlf.refl hm0 hw0 ?_ (fun _ => c2) hV.symm)
    rw [show y = (y.1, y.2.1, y.2.2) from rfl, he] at hc
    exact hc
  · have hp : V = .inr (1, t.2.1) := by
      rw [hV]
      unfold pstr
      rw [if_neg (fun z => z.1 rfl), if_pos c2]
    exact zbr_f (fun z => c2 ((nI_eq (b := 2) (by omega) (by omega)).mp z)) (cm_wrong (c := 1) hm0.2.2.2.2.2.2 hm0.2.2.1 (by decide) (by decide) (fun g3 f3 b3 => zh_X8_sayStrain_13 (zbr_f b3.2.1 (Hbad _ hp g3 (mlf_p f3) b3))))
/-- the outcome of a line -/
def mOl (T : sT) (g : hG) (e : hE) (k : Int32 → hG → hE → Prop) (r : (tok × sY) ⊕ (Nat × Nat)) : Prop := match r with
  | .inl q => ∀ g', mlf g g' → msy g' T q.1 q.2 → k (nI (dn q.2)) g' e
  | .inr q => ∀ g' v, mlf g g' → mbd g' q.1 q.2 → k v g' e
theorem m_ruleA {pu : Bool} (hS : msy g T t y) (h0 : ¬ t.1 = 0) (hl : (if pu = true then y.2.2.1 else y.2.2.2) = []) (Hbad : ∀ q, pany T pu 6 (tkn T t.2.2.1) = .inr q → ∀ g', mlf g g' → mbd g' q.1 q.2 → kv g' e) (Hok : ∀ q, pany T pu 6 (tkn T t.2.2.1) = .inl q → ∀ g', mlf g g' → mps g' T q.1 → wtk T q.1 → msc g' (y.1, y.2.1, if pu = true then (q.2, y.2.2.2) else (y.2.2.1, q.2)) → kv g' e) : hcv (d + 59) 243 [.ref 1046, .int (if pu = true then 2 else 4)] g e kv X := by
  obtain ⟨hm, hw, wf, hc⟩ := hS
  have n2 := nx_w hw
  have pA := m_anyP (T := T) (pu := pu) (e := e) (X := X) 6 (by omega) d
  rw [show d + 7 * 6 + 16 = d + 58 by omega, show nI (6 - 6) = 0 from rfl] at pA
  have go : ∀ g1, fr [] pF g g1 → mps g1 T (tkn T t.2.2.1) → hcv (d + 58) 240 [.ref 1046, .int 0] (sR (sI g1 1046 25 (nI (wn pu))) 1046 3 (1048 + wn pu)) e (fun g5 e6 => kv g5 e6) X := by
    intro g1 f1 m1
    have q : ∀ b, ¬ b = 1046 → (sR (sI g1 1046 25 (nI (wn pu))) 1046 3 (1048 + wn pu)).1 b = g1.1 b := fun b hb => by
      show (sI g1 1046 25 (nI (wn pu))).1 b = _
      rw [sI_off _ hb]
    have q6 : ∀ k, ¬ k = 25 → (sR (sI g1 1046 25 (nI (wn pu))) 1046 3 (1048 + wn pu)).1 1046 k = g1.1 1046 k := fun k hk => by
      show (sI g1 1046 25 (nI (wn pu))).1 1046 k = _
      rw [sI_at, upd_off _ _ hk]
    have v25 : (sR (sI g1 1046 25 (nI (wn pu))) 1046 3 (1048 + wn pu)).1 1046 25 = nI (wn pu) := by
      show (sI g1 1046 25 (nI (wn pu))).1 1046 25 = _
      rw [sI_at, upd_at]
    have v3 : (sR (sI g1 1046 25 (nI (wn pu))) 1046 3 (1048 + wn pu)).2.2 1046 3 = 1048 + wn pu := sR_at ..
    have F2 : mlf g (sR (sI g1 1046 25 (nI (wn pu))) 1046 3 (1048 + wn pu)) := (mlf_p f1).trans ⟨fun b x _ => q b x, fun k hk => q6 k (fun z => hk (by rw [z]; decide)), fun k _ => ⟨by rw [q 1050 (by omega)], by rw [q 1051 (by omega)], by rw [q 1052 (by omega)]⟩, fun k _ => by rw [q 1055 (by omega)], fun k _ => ⟨by rw [q 1056 (by omega)], by rw [q 1057 (by omega)]⟩, rfl, fun b hb => sR_off _ hb⟩
    have c2 : msc (sR (sI g1 1046 25 (nI (wn pu))) 1046 3 (1048 + wn pu)) y := by
      have := msc_p f1 hc
      unfold msc mzt
      rw [q 1050 (by omega), q 1051 (by omega), q 1052 (by omega), q 1053 (by omega), q 1054 (by omega), q 1055 (by omega), q 1056 (by omega), q 1057 (by omega)]
      exact this
    have m2 : mps (sR (sI g1 1046 25 (nI (wn pu))) 1046 3 (1048 + wn pu)) T (tkn T t.2.2.1) := by
      obtain ⟨x1, x2, x3, x4, x5, x6, x7⟩ := m1
      refine ⟨⟨by rw [q6 17 (by omega)]; exact x1.1, x1.2.1, by rw [q 1059 (by omega)]; exact x1.2.2⟩, by rw [q6 18 (by omega)]; exact x2, by rw [q6 20 (by omega)]; exact x3, by rw [q6 21 (by omega)]; exact x4, by rw [q6 16 (by omega)]; exact x5, by rw [q6 19 (by omega)]; exact x6, by rw [q6 22 (by omega)]; exact x7⟩
    generalize sR (sI g1 1046 25 (nI (wn pu))) 1046 3 (1048 + wn pu) = g2 at *
    have s2 : mst2 g2 T pu (tkn T t.2.2.1) [] := by
      refine ⟨⟨m2, n2.1, ⟨v25, v3⟩, ?_, fun j c hj => by cases hj⟩, Nat.zero_le _⟩
      cases pu with
      | true => have hl : y.2.2.1 = [] := hl; have := c2.2.2.1.1; rw [hl] at this; exact this
      | false => have hl : y.2.2.2 = [] := hl; have := c2.2.2.2.1; rw [hl] at this; exact this
    refine pA _ g2 _ [] s2 ?_
    cases hq : pany T pu 6 (tkn T t.2.2.1) with
    | inr ee => exact fun g3 f3 b3 => Hbad ee hq g3 (F2.trans (mlf_l f3)) b3
    | inl r =>
      intro g3 f3 c3
      have w := wn_le pu
      refine Hok r hq g3 (F2.trans (mlf_l f3)) c3.1.1 c3.1.2.1 ⟨⟨?_, fun i w hi => ?_⟩, ?_, ?_, ?_⟩
      · rw [f3.2.2.1 4 (by omega)]; exact c2.1.1
      · unfold mzt
        rw [f3.1 1051 (by omega) (by omega) (by omega), f3.1 1052 (by omega) (by omega) (by omega), f3.1 1053 (by omega) (by omega) (by omega), f3.1 1054 (by omega) (by omega) (by omega)]
        exact c2.1.2 i w hi
      · show (_ ∧ _)
        rw [f3.2.2.1 5 (by omega), f3.1 1055 (by omega) (by omega) (by omega)]; exact c2.2.1
      · cases pu with
        | true => exact ⟨c3.1.2.2.2.1, c3.1.2.2.2.2⟩
        | false =>
          show (_ ∧ _)
          rw [f3.2.2.1 6 (by decide), f3.1 1056 (by decide) (by decide) (by decide)]; exact c2.2.2.1
      · cases pu with
        | true =>
          show (_ ∧ _)
          rw [f3.2.2.1 7 (by decide), f3.1 1057 (by decide) (by decide) (by decide)]; exact c2.2.2.2
        | false => exact ⟨c3.1.2.2.2.1, c3.1.2.2.2.2⟩
  refine zh_X8_sayOnce (cm_next hm hw (fun g1 f1 m1 => ?_))
  have G := go g1 f1 m1
  cases pu with
  | true => exact zbr_f (by decide) (zbr_f (by decide) (zbr_t (by rw [sI_at, upd_at]) G))
  | false => exact zbr_f (by decide) (zbr_t rfl (zbr_f (by rw [sI_at, upd_at]; decide) G))
theorem dn_cases (y : sY) : ∃ a b c : Bool, (a = true ↔ ¬ y.2.1 = []) ∧ (b = true ↔ ¬ y.2.2.1 = []) ∧ (c = true ↔ ¬ y.2.2.2 = []) ∧ dn y = (if a = true then 1 else 0) + ((if b = true then 2 else 0) + (if c = true then 4 else 0)) := by
  refine ⟨!decide (y.2.1 = []), !decide (y.2.2.1 = []), !decide (y.2.2.2 = []), by simp, by simp, by simp, ?_⟩
  unfold dn
  by_cases a : y.2.1 = [] <;> by_cases b : y.2.2.1 = [] <;> by_cases c : y.2.2.2 = [] <;> simp [a, b, c]
theorem dnb : ∀ a b c : Bool, ((1 : Int32) &&& nI ((if a = true then 1 else 0) + ((if b = true then 2 else 0) + (if c = true then 4 else 0))) = 0 ↔ a = false) ∧ ((2 : Int32) &&& nI ((if a = true then 1 else 0) + ((if b = true then 2 else 0) + (if c = true then 4 else 0))) = 0 ↔ b = false) ∧ ((4 : Int32) &&& nI ((if a = true then 1 else 0) + ((if b = true then 2 else 0) + (if c = true then 4 else 0))) = 0 ↔ c = false) ∧ (0 : Int32) &&& nI ((if a = true then 1 else 0) + ((if b = true then 2 else 0) + (if c = true then 4 else 0))) = 0 ∧ nI ((if a = true then 1 else 0) + ((if b = true then 2 else 0) + (if c = true then 4 else 0))) ||| 0 = nI ((if a = true then 1 else 0) + ((if b = true then 2 else 0) + (if c = true then 4 else 0))) ∧ nI ((if a = true then 1 else 0) + ((if b = true then 2 else 0) + (if c = true then 4 else 0))) ||| 1 = nI ((if true = true then 1 else 0) + ((if b = true then 2 else 0) + (if c = true then 4 else 0))) ∧ nI ((if a = true then 1 else 0) + ((if b = true then 2 else 0) + (if c = true then 4 else 0))) ||| 2 = nI ((if a = true then 1 else 0) + ((if true = true then 2 else 0) + (if c = true then 4 else 0))) ∧ nI ((if a = true then 1 else 0) + ((if b = true then 2 else 0) + (if c = true then 4 else 0))) ||| 4 = nI ((if a = true then 1 else 0) + ((if b = true then 2 else 0) + (if true = true then 4 else 0))) := by decide
theorem dn_or1 {s : List Nat} (hs : ¬ s = []) : nI (dn y) ||| 1 = nI (dn (y.1, s, y.2.2)) := by
  obtain ⟨a, b, c, h1, h2, h3, h4⟩ := dn_cases y
  obtain ⟨a', b', c', k1, k2, k3, k4⟩ := dn_cases (y.1, s, y.2.2)
  have e1 : a' = true := k1.mpr hs
  have e2 : b' = b := Bool.eq_iff_iff.mpr (k2.trans h2.symm)
  have e3 : c' = c := Bool.eq_iff_iff.mpr (k3.trans h3.symm)
  rw [h4, k4, e1, e2, e3]
  exact (dnb a b c).2.2.2.2.2.1
theorem dn_or2 {s : List tk} (hs : ¬ s = []) : nI (dn y) ||| 2 = nI (dn (y.1, y.2.1, s, y.2.2.2)) := by
  obtain ⟨a, b, c, h1, h2, h3, h4⟩ := dn_cases y
  obtain ⟨a', b', c', k1, k2, k3, k4⟩ := dn_cases (y.1, y.2.1, s, y.2.2.2)
  have e1 : a' = a := Bool.eq_iff_iff.mpr (k1.trans h1.symm)
  have e2 : b' = true := k2.mpr hs
  have e3 : c' = c := Bool.eq_iff_iff.mpr (k3.trans h3.symm)
  rw [h4, k4, e1, e2, e3]
  exact (dnb a b c).2.2.2.2.2.2.1
theorem dn_or4 {s : List tk} (hs : ¬ s = []) : nI (dn y) ||| 4 = nI (dn (y.1, y.2.1, y.2.2.1, s)) := by
  obtain ⟨a, b, c, h1, h2, h3, h4⟩ := dn_cases y
  obtain ⟨a', b', c', k1, k2, k3, k4⟩ := dn_cases (y.1, y.2.1, y.2.2.1, s)
  have e1 : a' = a := Bool.eq_iff_iff.mpr (k1.trans h1.symm)
  have e2 : b' = b := Bool.eq_iff_iff.mpr (k2.trans h2.symm)
  have e3 : c' = true := k3.mpr hs
  rw [h4, k4, e1, e2, e3]
  exact (dnb a b c).2.2.2.2.2.2.2
theorem dn_an (y : sY) : ((1 : Int32) &&& nI (dn y) = 0 ↔ y.2.1 = []) ∧ ((2 : Int32) &&& nI (dn y) = 0 ↔ y.2.2.1 = []) ∧ ((4 : Int32) &&& nI (dn y) = 0 ↔ y.2.2.2 = []) ∧ (0 : Int32) &&& nI (dn y) = 0 ∧ nI (dn y) ||| 0 = nI (dn y) := by
  obtain ⟨a, b, c, h1, h2, h3, h4⟩ := dn_cases y
  obtain ⟨k1, k2, k3, k4, k5, -⟩ := dnb a b c
  rw [h4]
  have nf : ∀ {p : Prop} {u : Bool}, (u = true ↔ ¬ p) → (u = false ↔ p) := fun {p u} h => by
    cases u
    · exact ⟨fun _ => Classical.byContradiction (fun z => absurd (h.mpr z) (by decide)), fun _ => rfl⟩
    · exact ⟨fun z => absurd z (by decide), fun z => absurd z (h.mp rfl)⟩
  exact ⟨k1.trans (nf h1), k2.trans (nf h2), k3.trans (nf h3), k4, k5⟩
end
