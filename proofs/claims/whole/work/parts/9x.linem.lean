/-! lines in the model -/
def mzt (g : hG) (z : Nat) (q : qZ) : Prop := g.1 1051 z = nI q.1 ∧ g.1 1052 z = nI q.2.1.length ∧ (∀ p, p < q.2.1.length → g.1 1053 (16 * z + p) = nI (q.2.1.getD p 0)) ∧ ∀ p, p < q.2.1.length → g.1 1054 (16 * z + p) = nI (q.2.2.getD p 0)
def msc (g : hG) (y : sY) : Prop := (g.1 1050 4 = nI y.1.length ∧ ∀ i q, y.1[i]? = some q → mzt g (4 + i) q) ∧ (g.1 1050 5 = nI y.2.1.length ∧ ∀ j v, y.2.1[j]? = some v → g.1 1055 (8 + j) = nI v) ∧ (g.1 1050 6 = nI y.2.2.1.length ∧ ∀ j c, y.2.2.1[j]? = some c → g.1 1056 (700 + j) = cM c) ∧ (g.1 1050 7 = nI y.2.2.2.length ∧ ∀ j c, y.2.2.2[j]? = some c → g.1 1057 (700 + j) = cM c)
abbrev lF : List Nat := [16, 18, 19, 20, 21, 22, 23, 25]
/-- what lines may touch: the second halves -/
def mlf (g g' : hG) : Prop := (∀ b, ¬ b = 1046 → ¬ (1050 ≤ b ∧ b ≤ 1057) → g'.1 b = g.1 b) ∧ (∀ k, ¬ k ∈ lF → g'.1 1046 k = g.1 1046 k) ∧ (∀ k, k < 4 → g'.1 1050 k = g.1 1050 k ∧ g'.1 1051 k = g.1 1051 k ∧ g'.1 1052 k = g.1 1052 k) ∧ (∀ k, k < 8 → g'.1 1055 k = g.1 1055 k) ∧ (∀ k, k < 700 → g'.1 1056 k = g.1 1056 k ∧ g'.1 1057 k = g.1 1057 k) ∧ g'.2.1 = g.2.1 ∧ ∀ b, ¬ b = 1046 → g'.2.2 b = g.2.2 b
theorem mlf.refl {g : hG} : mlf g g := ⟨fun _ _ _ => rfl, fun _ _ => rfl, fun _ _ => ⟨rfl, rfl, rfl⟩, fun _ _ => rfl, fun _ _ => ⟨rfl, rfl⟩, rfl, fun _ _ => rfl⟩
theorem mlf.trans {g g' g'' : hG} (h : mlf g g') (h' : mlf g' g'') : mlf g g'' := ⟨fun b q r => (h'.1 b q r).trans (h.1 b q r), fun k q => (h'.2.1 k q).trans (h.2.1 k q), fun k q => ⟨(h'.2.2.1 k q).1.trans (h.2.2.1 k q).1, (h'.2.2.1 k q).2.1.trans (h.2.2.1 k q).2.1, (h'.2.2.1 k q).2.2.trans (h.2.2.1 k q).2.2⟩, fun k q => (h'.2.2.2.1 k q).trans (h.2.2.2.1 k q), fun k q => ⟨(h'.2.2.2.2.1 k q).1.trans (h.2.2.2.2.1 k q).1, (h'.2.2.2.2.1 k q).2.trans (h.2.2.2.2.1 k q).2⟩, h'.2.2.2.2.2.1.trans h.2.2.2.2.2.1, fun b q => (h'.2.2.2.2.2.2 b q).trans (h.2.2.2.2.2.2 b q)⟩
theorem mlf_p {g g' : hG} (h : fr [] pF g g') : mlf g g' := by
  have q : ∀ b, ¬ b = 1046 → g'.1 b = g.1 b := fun b hb => h.1 b (by simp) hb
  exact ⟨fun b x _ => q b x, fun k hk => h.2.1 k (fun z => hk ((show ∀ b, b ∈ pF → b ∈ lF by decide) k z)), fun k _ => ⟨by rw [q 1050 (by decide)], by rw [q 1051 (by decide)], by rw [q 1052 (by decide)]⟩, fun k _ => by rw [q 1055 (by decide)], fun k _ => ⟨by rw [q 1056 (by decide)], by rw [q 1057 (by decide)]⟩, by rw [h.2.2], fun b _ => by rw [h.2.2]⟩
theorem mlf_l {pu : Bool} {g g' : hG} (h : lfr pu g g') : mlf g g' := by
  have w := wn_le pu
  refine ⟨fun b x y => h.1 b x (by omega) (by omega), fun k hk => h.2.1 k (fun z => hk ((show ∀ b, b ∈ pF → b ∈ lF by decide) k z)), fun k hk => ⟨h.2.2.1 k (by omega), by rw [h.1 1051 (by omega) (by omega) (by omega)], by rw [h.1 1052 (by omega) (by omega) (by omega)]⟩, fun k _ => by rw [h.1 1055 (by omega) (by omega) (by omega)], fun k hk => ?_, by rw [h.2.2.2.2], fun b _ => by rw [h.2.2.2.2]⟩
  cases pu with
  | true => exact ⟨h.2.2.2.1 k hk, by rw [h.1 1057 (by decide) (by decide) (by decide)]⟩
  | false => exact ⟨by rw [h.1 1056 (by decide) (by decide) (by decide)], h.2.2.2.1 k hk⟩
theorem mdr_mlf {g g' : hG} {x : sX} (h : mlf g g') (hm : mdr g x) : mdr g' x := by
  obtain ⟨a1, a2, a3, a4, a5⟩ := hm
  have h4 := a1.1.2
  refine ⟨⟨⟨by rw [(h.2.2.1 0 (by omega)).1]; exact a1.1.1, h4⟩, fun z hz => ⟨?_, (a1.2 z hz).2⟩⟩, ?_, ?_, by rw [h.2.1 31 (by decide)]; exact a4, a5⟩
  · obtain ⟨m1, m2, m3, m4, m5, m6⟩ := (a1.2 z hz).1
    exact ⟨by rw [(h.2.2.1 z (by omega)).2.2]; exact m1, by rw [(h.2.2.1 z (by omega)).2.1]; exact m2, by rw [h.1 1060 (by omega) (by omega)]; exact m3, by rw [h.1 1061 (by omega) (by omega)]; exact m4, by rw [h.1 1063 (by omega) (by omega)]; exact m5, by rw [h.1 1062 (by omega) (by omega)]; exact m6⟩
  · obtain ⟨⟨b1, b2⟩, ⟨b3, b4⟩, b5, b6, b7⟩ := a2
    refine ⟨⟨by rw [(h.2.2.1 2 (by omega)).1]; exact b1, by rw [(h.2.2.1 3 (by omega)).1]; exact b2⟩, ⟨fun j w hj => ?_, fun j w hj => ?_⟩, b5, b6, b7⟩
    · have := (List.getElem?_eq_some_iff.mp hj).1
      rw [(h.2.2.2.2.1 j (by omega)).1]; exact b3 j w hj
    · have := (List.getElem?_eq_some_iff.mp hj).1
      rw [(h.2.2.2.2.1 j (by omega)).2]; exact b4 j w hj
  · obtain ⟨b1, b2, b3, b4⟩ := a3
    refine ⟨by rw [(h.2.2.1 1 (by omega)).1]; exact b1, b2, fun j w hj => ?_, b4⟩
    have := (List.getElem?_eq_some_iff.mp hj).1
    rw [h.2.2.2.1 j (by omega)]; exact b3 j w hj
/-- a zip in the making -/
def zmm (z : Nat) (g g' : hG) : Prop := (∀ b, ¬ b = 1046 → ¬ b = 1053 → ¬ b = 1054 → g'.1 b = g.1 b) ∧ (∀ k, ¬ k ∈ pF → g'.1 1046 k = g.1 1046 k) ∧ (∀ k, k < 16 * z → g'.1 1053 k = g.1 1053 k ∧ g'.1 1054 k = g.1 1054 k) ∧ g'.2 = g.2
theorem zmm.refl {z : Nat} {g : hG} : zmm z g g := ⟨fun _ _ _ _ => rfl, fun _ _ => rfl, fun _ _ => ⟨rfl, rfl⟩, rfl⟩
theorem zmm.trans {z : Nat} {g g' g'' : hG} (h : zmm z g g') (h' : zmm z g' g'') : zmm z g g'' := ⟨fun b q r u => (h'.1 b q r u).trans (h.1 b q r u), fun k q => (h'.2.1 k q).trans (h.2.1 k q), fun k q => ⟨(h'.2.2.1 k q).1.trans (h.2.2.1 k q).1, (h'.2.2.1 k q).2.trans (h.2.2.1 k q).2⟩, h'.2.2.2.trans h.2.2.2⟩
theorem zmm_p {z : Nat} {g g' : hG} (h : fr [] pF g g') : zmm z g g' := ⟨fun b q _ _ => h.1 b (by simp) q, h.2.1, fun k _ => ⟨by rw [h.1 1053 (by simp) (by decide)], by rw [h.1 1054 (by simp) (by decide)]⟩, h.2.2⟩
theorem mlf_z {z : Nat} {g g' : hG} (h : zmm z g g') : mlf g g' := ⟨fun b x y => h.1 b x (by omega) (by omega), fun k hk => h.2.1 k (fun z => hk ((show ∀ b, b ∈ pF → b ∈ lF by decide) k z)), fun k _ => ⟨by rw [h.1 1050 (by omega) (by omega) (by omega)], by rw [h.1 1051 (by omega) (by omega) (by omega)], by rw [h.1 1052 (by omega) (by omega) (by omega)]⟩, fun k _ => by rw [h.1 1055 (by omega) (by omega) (by omega)], fun k _ => ⟨by rw [h.1 1056 (by omega) (by omega) (by omega)], by rw [h.1 1057 (by omega) (by omega) (by omega)]⟩, by rw [h.2.2.2], fun b _ => by rw [h.2.2.2]⟩
section
variable {d : Nat} {k : Int32 → hG → hE → Prop} {kv : hG → hE → Prop} {X : Nat → hG → hE → Prop} {g : hG} {e : hE} {T : sT} {t : tok} {L : List tk} {y : sY}
theorem mps_zm {z : Nat} {R i : Nat} {v : Int32} (hR : R = 1053 ∨ R = 1054) (hm : mps g T t) : mps (sI g R i v) T t := by
  unfold mps mtx
  rw [sI_off _ (by omega), sI_off _ (by omega)]
  exact hm
theorem zmm_s {z R i : Nat} {v : Int32} (hR : R = 1053 ∨ R = 1054) (hi : 16 * z ≤ i) : zmm z g (sI g R i v) := by
  refine ⟨fun b _ x y => sI_off _ (by omega), fun k _ => by rw [sI_off _ (by omega)], fun k hk => ?_, rfl⟩
  rcases hR with rfl | rfl
  · exact ⟨by rw [sI_at, upd_off _ _ (by omega)], by rw [sI_off _ (by omega)]⟩
  · exact ⟨by rw [sI_off _ (by omega)], by rw [sI_at, upd_off _ _ (by omega)]⟩
/-- with a fault a zip is left -/
theorem zip_bad {z n : Nat} (hz : 4 ≤ z ∧ z < 8) (hn : n ≤ 17) (h0 : ¬ g.1 1046 22 = 0) (H : ∀ g', mlf g g' → g'.1 1046 22 = g.1 1046 22 → g'.1 1046 23 = g.1 1046 23 → kv g' e) : hwv d zm_X8_sayZip kv X 193 [(0, .ref 1046), (2, .int (nI z)), (3, .int (nI n))] g e := by
  refine zh_X8_sayZip_193 ⟨nI_in hz.2 (by omega), ?_⟩
  rw [nI_clamp (by omega)]
  have q : ∀ b, ¬ b = 1052 → ¬ b = 1050 → (sI (sI g 1052 z (nI n)) 1050 4 (((sI g 1052 z (nI n)).1 1050 4) + 1)).1 b = g.1 b := fun b x1 x2 => by rw [sI_off _ x2, sI_off _ x1]
  refine H _ ⟨fun b _ x => q b (by omega) (by omega), fun k _ => by rw [q 1046 (by omega) (by omega)], fun k hk => ⟨by rw [sI_at, upd_off _ _ (by omega), sI_off _ (by omega)], by rw [q 1051 (by omega) (by omega)], by rw [sI_off _ (by omega), sI_at, upd_off _ _ (by omega)]⟩, fun k _ => by rw [q 1055 (by omega) (by omega)], fun k _ => ⟨by rw [q 1056 (by omega) (by omega)], by rw [q 1057 (by omega) (by omega)]⟩, rfl, fun _ _ => rfl⟩ ?_ ?_
  · rw [q 1046 (by omega) (by omega)]
  · rw [q 1046 (by omega) (by omega)]
theorem mbd_m {g' : hG} {c a : Nat} (h : mbd g c a) (h1 : g'.1 1046 22 = g.1 1046 22) (h2 : g'.1 1046 23 = g.1 1046 23) : mbd g' c a := by
  unfold mbd
  rw [h1, h2]
  exact h
theorem zip_bad155 {z n j : Nat} (hz : 4 ≤ z ∧ z < 8) (hn : n ≤ 17) (h0 : ¬ g.1 1046 22 = 0) (H : ∀ g', mlf g g' → g'.1 1046 22 = g.1 1046 22 → g'.1 1046 23 = g.1 1046 23 → kv g' e) : hwv d zm_X8_sayZip kv X 155 [(0, .ref 1046), (2, .int (nI z)), (3, .int (nI n)), (4, .int (nI j))] g e :=
  zh_X8_sayZip_155 ⟨fun _ => zip_bad hz hn h0 H, fun _ => zbr_f h0 (zip_bad hz hn h0 H)⟩
theorem zip_bad119 {z n : Nat} (hz : 4 ≤ z ∧ z < 8) (hn : n ≤ 17) (h0 : ¬ g.1 1046 22 = 0) (H : ∀ g', mlf g g' → g'.1 1046 22 = g.1 1046 22 → g'.1 1046 23 = g.1 1046 23 → kv g' e) : hwv d zm_X8_sayZip kv X 119 [(0, .ref 1046), (2, .int (nI z)), (3, .int (nI n))] g e := zh_X8_sayZip_119 (zbr_f h0 (zbr_f h0 (zip_bad155 (j := 0) hz hn h0 H)))
theorem zip_bad58 {z n : Nat} (hz : 4 ≤ z ∧ z < 8) (hn : n ≤ 17) (h0 : ¬ g.1 1046 22 = 0) (H : ∀ g', mlf g g' → g'.1 1046 22 = g.1 1046 22 → g'.1 1046 23 = g.1 1046 23 → kv g' e) : hwv d zm_X8_sayZip kv X 58 [(0, .ref 1046), (2, .int (nI z)), (3, .int (nI n))] g e := zh_X8_sayZip_58 (zbr_f h0 (zip_bad119 hz hn h0 H))
theorem m_right {z n : Nat} {g0 : hG} (hz : 4 ≤ z ∧ z < 8) (hn : n ≤ 16) (Hbad : ∀ q, pright T n t [] = .inr q → ∀ g', mlf g0 g' → mbd g' q.1 q.2 → kv g' e) (Hok : ∀ r, pright T n t [] = .inl r → ∀ g', zmm z g g' → (∀ p, g'.1 1053 p = g.1 1053 p) → mps g' T r.1 → (∀ p, p < n → g'.1 1054 (16 * z + p) = nI (r.2.getD p 0)) → hwv (d + 5) zm_X8_sayZip kv X 193 [(0, .ref 1046), (2, .int (nI z)), (3, .int (nI n))] g' e) (hm0 : mps g T t) (hw0 : wtk T t) (f00 : mlf g0 g) : hwv (d + 5) zm_X8_sayZip kv X 155 [(0, .ref 1046), (2, .int (nI z)), (3, .int (nI n)), (4, .int 0)] g e := by
  obtain ⟨V, hV⟩ : ∃ V, V = pright T n t [] := ⟨_, rfl⟩
  rw [← hV] at Hbad Hok
  have main : ∀ f t1 s g1, s.length + f = n → zmm z g g1 → (∀ p, g1.1 1053 p = g.1 1053 p) → mps g1 T t1 → wtk T t1 → (∀ p, p < s.length → g1.1 1054 (16 * z + p) = nI (s.getD p 0)) → pright T f t1 s = V → hwv (d + 5) zm_X8_sayZip kv X 155 [(0, .ref 1046), (2, .int (nI z)), (3, .int (nI n)), (4, .int (nI s.length))] g1 e := by
    intro f
    induction f with
    | zero =>
      intro t1 s g1 hl f1 e1 m1 w1 A hp
      have hl' : s.length = n := by omega
      refine zh_X8_sayZip_155 (zbr_t (nI_le (by omega) (by omega)) (Hok (t1, s) hp.symm g1 f1 e1 m1 ?_))
      rw [← hl']; exact A
    | succ f ih =>
      intro t1 s g1 hl f1 e1 m1 w1 A hp
      unfold pright at hp
      have w4 := w1.2.2.2.1
      have h128 : hin (nI (16 * z + s.length)) 128 := nI_in (by omega) (by omega)
      have bad : ∀ q, (.inr q : pz) = V → ∀ g2, fr [] pF g1 g2 → mbd g2 q.1 q.2 → hin (nI (16 * z + s.length)) 128 ∧ hwv (d + 5) zm_X8_sayZip kv X 155 [(0, .ref 1046), (2, .int (nI z)), (3, .int (nI n)), (4, .int (nI (s.length + 1)))] (sI g2 1054 (16 * z + s.length) 0) e := by
        intro q hq g2 f2 b2
        have k22 : (sI g2 1054 (16 * z + s.length) 0).1 1046 = g2.1 1046 := sI_off _ (by omega)
        have fA : mlf g0 (sI g2 1054 (16 * z + s.length) 0) := ((f00.trans (mlf_z f1)).trans (mlf_p f2)).trans (mlf_z (zmm_s (z := z) (.inr rfl) (by omega)))
        exact ⟨h128, zip_bad155 hz (by omega) (by rw [k22]; exact b2.2.1) (fun g' f' v1 v2 => Hbad q hq.symm g' (fA.trans f') (mbd_m b2 (by rw [v1, k22]) (by rw [v2, k22])))⟩
      refine zh_X8_sayZip_155 (zbr_f (nI_ge (by omega) (by omega)) (zbr_t m1.2.2.2.2.2.2 ?_))
      rw [ix16, nI_clamp (show 16 * z + s.length < 2 ^ 31 by omega), nI_1]
      refine cm_readNumber (top := 9) m1 w1 (by omega) (fun c2 le g2 f2 m2 => ?_) (fun c2 le g2 f2 b2 => ?_) (fun c2 g2 f2 b2 => ?_)
      · rw [if_neg (not_not_intro c2), if_neg (not_not_intro le)] at hp
        refine ⟨h128, ?_⟩
        have := ih _ (s ++ [t1.2.2.2]) (sI g2 1054 (16 * z + s.length) (nI t1.2.2.2)) (by rw [List.length_append, List.length_singleton]; omega) ((f1.trans (zmm_p f2)).trans (zmm_s (.inr rfl) (by omega))) (fun p => by rw [sI_off _ (by omega), f2.1 1053 (by simp) (by decide)]; exact e1 p) (mps_zm (z := z) (.inr rfl) m2) (nx_w w1).1 (fun p hp' => ?_) hp
        · rw [List.length_append, List.length_singleton] at this
          exact this
        · rw [List.length_append, List.length_singleton] at hp'
          rw [sI_at]
          have gu := congrFun (getD_up (l := s) (v := t1.2.2.2)) p
          by_cases cp : p = s.length
          · subst cp
            rw [upd_at, ← gu, va_up_at]
          · rw [upd_off _ _ (by omega), f2.1 1054 (by simp) (by decide), ← gu, va_up_off _ _ cp]
            exact A p (by omega)
      · rw [if_neg (not_not_intro c2), if_pos le] at hp
        exact bad (2, t1.2.1) hp g2 f2 b2
      · rw [if_pos c2] at hp
        exact bad (1, t1.2.1) hp g2 f2 b2
  exact main n t [] g (by rw [List.length_nil, Nat.zero_add]) zmm.refl (fun _ => rfl) hm0 hw0 (fun p h => absurd h (Nat.not_lt_zero _)) hV.symm
theorem m_sayZip (hm : mps g T t) (hw : wtk T t) (hc : msc g y) (hy : wfy y t.2.1) {c : Nat} (hc1 : c ≤ 1) (h0 : ¬ t.1 = 0) (Hfull : y.1.length = 4 → ∀ g', mlf g g' → mbd g' 2 t.2.1 → kv g' e) (Hl : ¬ y.1.length = 4 → ∀ q, pleft T 17 (tkn T t.2.2.1) [] = .inr q → ∀ g', mlf g g' → mbd g' q.1 q.2 → kv g' e) (Hr : ¬ y.1.length = 4 → ∀ q, pleft T 17 (tkn T t.2.2.1) [] = .inl q → ∀ r, pright T q.2.length q.1 [] = .inr r → ∀ g', mlf g g' → mbd g' r.1 r.2 → kv g' e) (Hok : ¬ y.1.length = 4 → ∀ q, pleft T 17 (tkn T t.2.2.1) [] = .inl q → ∀ r, pright T q.2.length q.1 [] = .inl r → ∀ g', mlf g g' → mps g' T r.1 → msc g' (y.1 ++ [(c, q.2, r.2)], y.2) → kv g' e) : hcv (d + 6) 241 [.ref 1046, .int (nI c)] g e kv X := by
  have h22 := hm.2.2.2.2.2.2
  have l4 := hy.1.1
  have n2 := nx_w hw
  refine zh_X8_sayZip ?_
  rw [hc.1.1]
  by_cases c4 : y.1.length = 4
  · exact zbr_t (by rw [c4]; rfl) (cm_wrong (c := 2) h22 hm.2.2.1 (by decide) (by decide) (fun g' f' b' => zh_X8_sayZip_15 (zbr_f b'.2.1 (Hfull c4 g' (mlf_p f') b'))))
  · refine zbr_f (fun z => c4 ((nI_eq (b := 4) (by omega) (by omega)).mp z)) (zh_X8_sayZip_15 (zbr_t h22 (cm_next hm hw (fun g1 f1 m1 => ?_))))
    obtain ⟨z, hz⟩ : ∃ z, z = 4 + y.1.length := ⟨_, rfl⟩
    have zz : 4 ≤ z ∧ z < 8 := by omega
    have e4 : (4 : Int32) + g1.1 1050 4 = nI z := by rw [f1.1 1050 (by simp) (by decide), hc.1.1, show (4 : Int32) = nI 4 from rfl, nI_add, hz]
    rw [e4, nI_clamp (show z < 2 ^ 31 by omega)]
    refine ⟨nI_in zz.2 (by omega), ?_⟩
    have q2 : ∀ b, ¬ b = 1051 → (sI g1 1051 z (nI c)).1 b = g1.1 b := fun b hb => sI_off _ hb
    have v51 : (sI g1 1051 z (nI c)).1 1051 = upd (g.1 1051) z (nI c) := by rw [sI_at, f1.1 1051 (by simp) (by decide)]
    have m2 : mps (sI g1 1051 z (nI c)) T (tkn T t.2.2.1) := by
      unfold mps mtx
      rw [q2 1046 (by omega), q2 1059 (by omega)]
      exact m1
    have F2 : mlf g (sI g1 1051 z (nI c)) := (mlf_p f1).trans ⟨fun b _ x => q2 b (by omega), fun k _ => by rw [q2 1046 (by omega)], fun k hk => ⟨by rw [q2 1050 (by omega)], by rw [sI_at, upd_off _ _ (by omega)], by rw [q2 1052 (by omega)]⟩, fun k _ => by rw [q2 1055 (by omega)], fun k _ => ⟨by rw [q2 1056 (by omega)], by rw [q2 1057 (by omega)]⟩, rfl, fun _ _ => rfl⟩
    have o2 : ∀ b, ¬ b = 1046 → ¬ b = 1051 → (sI g1 1051 z (nI c)).1 b = g.1 b := fun b x1 x2 => by rw [q2 b x2, f1.1 b (by simp) x1]
    generalize sI g1 1051 z (nI c) = g2 at *
    rw [m2.2.1]
    have w4 := n2.1.2.2.2.1
    have bad : ∀ q, pleft T 17 (tkn T t.2.2.1) [] = .inr q → ∀ g3 n, n ≤ 17 → mlf g2 g3 → mbd g3 q.1 q.2 → hwv (d + 5) zm_X8_sayZip kv X 58 [(0, .ref 1046), (2, .int (nI z)), (3, .int (nI n))] g3 e := fun q hq g3 n hn f3 b3 => zip_bad58 zz hn b3.2.1 (fun g' f' v1 v2 => Hl c4 q hq g' ((F2.trans f3).trans f') (mbd_m b3 v1 v2))
    have main : ∀ f t1 s g3, s.length + f = 17 → s.length ≤ 16 → zmm z g2 g3 → mps g3 T t1 → wtk T t1 → (∀ p, p < s.length → g3.1 1053 (16 * z + p) = nI (s.getD p 0)) → (s = [] → t1.1 = 2) → pleft T f t1 s = pleft T 17 (tkn T t.2.2.1) [] → hwv (d + 5) zm_X8_sayZip kv X 58 [(0, .ref 1046), (2, .int (nI z)), (3, .int (nI s.length))] g3 e := by
      intro f
      induction f with
      | zero =>
        intro t1 s g3 hl h16
        exact absurd hl (by omega)
      | succ f ih =>
        intro t1 s g3 hl h16 f3 m3 w3 A hs hp
        unfold pleft at hp
        have w43 := w3.2.2.2.1
        refine zh_X8_sayZip_58 (zbr_t m3.2.2.2.2.2.2 ?_)
        rw [m3.2.1]
        by_cases c2 : t1.1 = 2
        · have nw : ¬ (¬ s = [] ∧ isW T t1 (htx 6) = true) := fun z => by rw [(isW_t.mp z.2).1] at c2; exact absurd c2 (by decide)
          rw [if_neg nw, if_neg (not_not_intro c2)] at hp
          refine zbr_t (by rw [c2]; rfl) ?_
          by_cases c16 : s.length = 16
          · rw [if_pos (.inl c16)] at hp
            refine zbr_t (by rw [c16]; rfl) (cm_wrong (c := 2) m3.2.2.2.2.2.2 m3.2.2.1 (by decide) (by decide) (fun g4 f4 b4 => zh_X8_sayZip_84 (cmb_readNumber b4.2.1 (zbr_f b4.2.1 ?_))))
            rw [nI_1]
            exact bad (2, t1.2.1) hp.symm g4 _ (by omega) ((mlf_z f3).trans (mlf_p f4)) b4
          · refine zbr_f (fun z => c16 ((nI_eq (b := 16) (by omega) (by omega)).mp z)) (zh_X8_sayZip_84 (cm_readNumber (top := 9) m3 w3 (by omega) (fun _ le g4 f4 m4 => zbr_t m4.2.2.2.2.2.2 ?_) (fun _ le g4 f4 b4 => zbr_f b4.2.1 ?_) (fun c2' => absurd c2 c2')))
            · rw [if_neg (fun z => z.elim c16 (fun z => z le))] at hp
              rw [ix16, nI_clamp (show 16 * z + s.length < 2 ^ 31 by omega), nI_1]
              refine ⟨nI_in (by omega) (by omega), ?_⟩
              have := ih _ (s ++ [t1.2.2.2]) (sI g4 1053 (16 * z + s.length) (nI t1.2.2.2)) (by rw [List.length_append, List.length_singleton]; omega) (by rw [List.length_append, List.length_singleton]; omega) ((f3.trans (zmm_p f4)).trans (zmm_s (.inl rfl) (by omega))) (mps_zm (z := z) (.inl rfl) m4) (nx_w w3).1 (fun p hp' => ?_) (fun z => absurd z (by simp)) hp
              · rw [List.length_append, List.length_singleton] at this
                exact this
              · rw [List.length_append, List.length_singleton] at hp'
                rw [sI_at]
                have gu := congrFun (getD_up (l := s) (v := t1.2.2.2)) p
                by_cases cp : p = s.length
                · subst cp
                  rw [upd_at, ← gu, va_up_at]
                · rw [upd_off _ _ (by omega), f4.1 1053 (by simp) (by decide), ← gu, va_up_off _ _ cp]
                  exact A p (by omega)
            · rw [if_pos (.inr le)] at hp
              rw [nI_1]
              exact bad (2, t1.2.1) hp.symm g4 _ (by omega) ((mlf_z f3).trans (mlf_p f4)) b4
        · have sne : ¬ s = [] := fun z => c2 (hs z)
          refine zbr_f (fun z => c2 ((nI_eq (b := 2) (by omega) (by omega)).mp z)) (zh_X8_sayZip_119 (zbr_t m3.2.2.2.2.2.2 (cm_is (p := 52) m3 w3 (by decide) ?_)))
          cases qt : isW T t1 (htx 6) with
          | false =>
            rw [show isW T t1 (htx (52 / 2)) = false from qt]
            rw [if_neg (fun z => by rw [qt] at z; exact absurd z.2 (by decide)), if_pos c2] at hp
            refine zbr_t rfl (cm_wrong (c := 1) m3.2.2.2.2.2.2 m3.2.2.1 (by decide) (by decide) (fun g4 f4 b4 => zbr_f b4.2.1 (zip_bad155 (j := 0) zz (by omega) b4.2.1 (fun g' f' v1 v2 => Hl c4 (1, t1.2.1) hp.symm g' (((F2.trans (mlf_z f3)).trans (mlf_p f4)).trans f') (mbd_m b4 v1 v2)))))
          | true =>
            rw [show isW T t1 (htx (52 / 2)) = true from qt]
            rw [if_pos ⟨sne, qt⟩] at hp
            refine zbr_f (by decide) (zbr_t m3.2.2.2.2.2.2 (cm_next m3 w3 (fun g4 f4 m4 => ?_)))
            have s16 : s.length ≤ 16 := by omega
            refine m_right (g0 := g) (t := tkn T t1.2.2.1) zz s16 (fun r hr g' f' b' => Hr c4 _ hp.symm r hr g' f' b') (fun r hr g5 f5 e5 m5 B => ?_) m4 (nx_w w3).1 ((F2.trans (mlf_z f3)).trans (mlf_p f4))
            have F5 : zmm z g2 g5 := (f3.trans (zmm_p f4)).trans f5
            refine zh_X8_sayZip_193 ⟨nI_in zz.2 (by omega), ?_⟩
            have k504 : g5.1 1050 4 = nI y.1.length := by rw [F5.1 1050 (by omega) (by omega) (by omega), o2 1050 (by omega) (by omega)]; exact hc.1.1
            rw [nI_clamp (show z < 2 ^ 31 by omega), sI_off g5 (show ¬ 1050 = 1052 by decide), k504, nI_1]
            have q6 : ∀ b, ¬ b = 1052 → ¬ b = 1050 → (sI (sI g5 1052 z (nI s.length)) 1050 4 (nI (y.1.length + 1))).1 b = g5.1 b := fun b x1 x2 => by rw [sI_off _ x2, sI_off _ x1]
            have q50 : ∀ k, ¬ k = 4 → (sI (sI g5 1052 z (nI s.length)) 1050 4 (nI (y.1.length + 1))).1 1050 k = g5.1 1050 k := fun k hk => by rw [sI_at, upd_off _ _ hk, sI_off _ (by omega)]
            have q52 : ∀ k, ¬ k = z → (sI (sI g5 1052 z (nI s.length)) 1050 4 (nI (y.1.length + 1))).1 1052 k = g5.1 1052 k := fun k hk => by rw [sI_off _ (by omega), sI_at, upd_off _ _ hk]
            have r5 : ∀ b, ¬ b = 1046 → ¬ b = 1051 → ¬ b = 1053 → ¬ b = 1054 → g5.1 b = g.1 b := fun b x1 x2 x3 x4 => by rw [F5.1 b x1 x3 x4, o2 b x1 x2]
            have F6 : mlf g5 (sI (sI g5 1052 z (nI s.length)) 1050 4 (nI (y.1.length + 1))) := ⟨fun b _ x => q6 b (by omega) (by omega), fun k _ => by rw [q6 1046 (by omega) (by omega)], fun k hk => ⟨q50 k (by omega), by rw [q6 1051 (by omega) (by omega)], q52 k (by omega)⟩, fun k _ => by rw [q6 1055 (by omega) (by omega)], fun k _ => ⟨by rw [q6 1056 (by omega) (by omega)], by rw [q6 1057 (by omega) (by omega)]⟩, rfl, fun _ _ => rfl⟩
            refine Hok c4 _ hp.symm r hr _ ((F2.trans (mlf_z F5)).trans F6) ?_ ⟨⟨?_, fun i w hi => ?_⟩, ?_, ?_, ?_⟩
            · unfold mps mtx
              rw [q6 1046 (by omega) (by omega), q6 1059 (by omega) (by omega)]
              exact m5
            · rw [sI_at, upd_at]
              show _ = nI (y.1 ++ [_]).length
              rw [List.length_append]; rfl
            · have hi : (y.1 ++ [(c, s, r.2)])[i]? = some w := hi
              by_cases ci : i = y.1.length
              · subst ci
                rw [List.getElem?_append_right (Nat.le_refl _), Nat.sub_self] at hi
                rw [← Option.some.inj hi, ← hz]
                refine ⟨?_, ?_, fun p hp' => ?_, fun p hp' => ?_⟩
                · rw [q6 1051 (by omega) (by omega), F5.1 1051 (by omega) (by omega) (by omega), v51, upd_at]
                · rw [sI_off _ (by omega), sI_at, upd_at]
                · rw [q6 1053 (by omega) (by omega), e5, f4.1 1053 (by simp) (by decide)]
                  exact A p hp'
                · rw [q6 1054 (by omega) (by omega)]
                  exact B p hp'
              · have hil : i < y.1.length := by
                  have := (List.getElem?_eq_some_iff.mp hi).1
                  rw [List.length_append] at this
                  have : i < y.1.length + 1 := this
                  omega
                rw [List.getElem?_append_left hil] at hi
                obtain ⟨b1, b2, b3, b4⟩ := hc.1.2 i w hi
                have wq := hy.1.2 w (List.mem_of_getElem? hi)
                have wl := wq.2.2.1
                refine ⟨?_, ?_, fun p hp' => ?_, fun p hp' => ?_⟩
                · rw [q6 1051 (by omega) (by omega), F5.1 1051 (by omega) (by omega) (by omega), v51, upd_off _ _ (by omega)]; exact b1
                · rw [q52 _ (by omega), r5 1052 (by omega) (by omega) (by omega) (by omega)]; exact b2
                · rw [q6 1053 (by omega) (by omega), (F5.2.2.1 _ (by omega)).1, o2 1053 (by omega) (by omega)]; exact b3 p hp'
                · rw [q6 1054 (by omega) (by omega), (F5.2.2.1 _ (by omega)).2, o2 1054 (by omega) (by omega)]; exact b4 p hp'
            · show (_ ∧ _)
              rw [q50 5 (by omega), r5 1050 (by omega) (by omega) (by omega) (by omega), q6 1055 (by omega) (by omega), r5 1055 (by omega) (by omega) (by omega) (by omega)]
              exact hc.2.1
            · show (_ ∧ _)
              rw [q50 6 (by omega), r5 1050 (by omega) (by omega) (by omega) (by omega), q6 1056 (by omega) (by omega), r5 1056 (by omega) (by omega) (by omega) (by omega)]
              exact hc.2.2.1
            · show (_ ∧ _)
              rw [q50 7 (by omega), r5 1050 (by omega) (by omega) (by omega) (by omega), q6 1057 (by omega) (by omega), r5 1057 (by omega) (by omega) (by omega) (by omega)]
              exact hc.2.2.2
    by_cases c2 : (tkn T t.2.2.1).1 = 2
    · exact zbr_t (by rw [c2]; rfl) (main 17 _ [] g2 rfl (Nat.zero_le _) zmm.refl m2 n2.1 (fun p h => absurd h (Nat.not_lt_zero _)) (fun _ => c2) rfl)
    · have hp : pleft T 17 (tkn T t.2.2.1) [] = .inr (1, (tkn T t.2.2.1).2.1) := by
        unfold pleft
        rw [if_neg (fun z => z.1 rfl), if_pos c2]
      exact zbr_f (fun z => c2 ((nI_eq (b := 2) (by omega) (by omega)).mp z)) (cm_wrong (c := 1) m2.2.2.2.2.2.2 m2.2.2.1 (by decide) (by decide) (fun g3 f3 b3 => bad _ hp g3 0 (by omega) (mlf_p f3) b3))
end
