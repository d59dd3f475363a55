abbrev uL : List Nat := [1060, 1061, 1062, 1063]
/-- the model's drawer -/
def mdr (g : hG) (x : sX) : Prop := ms g x.1 x.2.1 ∧ mrls g x.2.2.2.1 x.2.2.2.2.1 ∧ mst g x.2.2.1 ∧ g.1 1046 31 = nI x.2.2.2.2.2 ∧ x.2.2.2.2.2 ≤ 999
/-- rows and fields that a question may touch -/
abbrev qL : List Nat := [1060, 1061, 1062, 1063, 1065, 1066, 1067, 1068, 1069, 1070, 1071, 1072, 1077, 1078, 1079, 1080]
abbrev qF : List Nat := [4, 31, 49, 51]
theorem ms_pk {g g' : hG} {nz o : Nat} {zs : Nat → sZ} {f : Nat → Int32} (hm : ms g nz zs) (h1 : pk f o g) (h2 : pk f o g') (h5 : g'.1 1050 = g.1 1050) (h6 : g'.1 1051 = g.1 1051) (h7 : g'.1 1052 = g.1 1052) : ms g' nz zs := by
  refine ⟨⟨by rw [h5]; exact hm.1.1, hm.1.2⟩, fun z hz => ?_⟩
  have h4 := hm.1.2
  obtain ⟨⟨m1, m2, m3, m4, m5, m6⟩, mo⟩ := hm.2 z hz
  refine ⟨⟨by rw [h7]; exact m1, by rw [h6]; exact m2, fun p hp => ?_, fun p hp => ?_, ?_, ?_⟩, mo⟩
  · rw [← (h2.2.2 (16 * z + p) (by omega)).1, (h1.2.2 (16 * z + p) (by omega)).1]; exact m3 p hp
  · rw [← (h2.2.2 (16 * z + p) (by omega)).2, (h1.2.2 (16 * z + p) (by omega)).2]; exact m4 p hp
  · rw [← (h2.2.1 z (by omega)).2, (h1.2.1 z (by omega)).2]; exact m5
  · rw [← (h2.2.1 z (by omega)).1, (h1.2.1 z (by omega)).1]; exact m6
theorem mdr_pk {L F : List Nat} {g g' : hG} {x : sX} {o : Nat} {f : Nat → Int32} (hm : mdr g x) (hf : fr L F g g') (hL : ∀ b, b ∈ [1050, 1051, 1052, 1055, 1056, 1057] → ¬ b ∈ L) (h1 : pk f o g) (h2 : pk f o g') : mdr g' x := by
  obtain ⟨a1, a2, a3, a4, a5⟩ := hm
  have q : ∀ b, b ∈ [1050, 1051, 1052, 1055, 1056, 1057] → g'.1 b = g.1 b := fun b hb => hf.1 b (hL b hb) (by
    intro z
    subst z
    exact absurd hb (by decide))
  refine ⟨ms_pk a1 h1 h2 (q _ (by decide)) (q _ (by decide)) (q _ (by decide)), mrls_fr hf (hL _ (by decide)) (hL _ (by decide)) (hL _ (by decide)) a2, mst_fr hf (hL _ (by decide)) (hL _ (by decide)) a3, ?_, a5⟩
  rw [← h2.1, h1.1]
  exact a4
section
variable {d : Nat} {k : Int32 → hG → hE → Prop} {kv : hG → hE → Prop} {X : Nat → hG → hE → Prop} {g : hG} {e : hE}
theorem cm_unpack {a n o : Nat} (ha : hT a = some (.inl (0, n))) (hn : n < 2 ^ 20) (ho : o + 137 ≤ n) (h0 : ¬ a = 1060 ∧ ¬ a = 1061 ∧ ¬ a = 1062 ∧ ¬ a = 1063 ∧ ¬ a = 1046) (H : ∀ g', fr uL [31] g g' → pk (g.1 a) o g' → kv g' e) : hcv (d + 1) 250 [.ref 1046, .ref a, .int (nI o)] g e kv X := by
  obtain ⟨a0, a1, a2, a3, a6⟩ := h0
  have ua : ¬ a ∈ uL := by simp [uL, a0, a1, a2, a3]
  refine zh_X8_unpack ha ⟨nI_in (by omega) (by omega), ?_⟩
  rw [nI_clamp (by omega)]
  have L2 : ∀ q, q ≤ 64 → ∀ g1, fr uL [31] g g1 → g1.1 1046 31 = g.1 a o → (∀ z, z < 4 → g.1 a (o + 1 + z) = g1.1 1062 z ∧ g.1 a (o + 5 + z) = g1.1 1063 z) → (∀ q', q' < q → g.1 a (o + 9 + 2 * q') = g1.1 1060 q' ∧ g.1 a (o + 10 + 2 * q') = g1.1 1061 q') → hwv d zm_X8_unpack kv X 58 [(0, .ref 1046), (1, .ref a), (3, .int (nI (o + 9 + 2 * q))), (4, .int (nI q))] g1 e := by
    refine hdown ?_ ?_
    · intro g1 f f1 f2 f3
      exact zh_X8_unpack_58 ha (zbr_t (by decide) (H g1 f ⟨f1.symm, f2, f3⟩))
    · intro q hq W g1 f f1 f2 f3
      have ga : g1.1 a = g.1 a := f.1 a ua a6
      have eq : (nI q).toNatClampNeg = q := nI_clamp (by omega)
      have e1 : (nI (o + 9 + 2 * q)).toNatClampNeg = o + 9 + 2 * q := nI_clamp (by omega)
      have e2 : (nI (o + 9 + 2 * q + 1)).toNatClampNeg = o + 9 + 2 * q + 1 := nI_clamp (by omega)
      refine zh_X8_unpack_58 ha (zbr_f (by rw [show (64 : Int32) = nI 64 from rfl]; exact nI_ge hq (by omega)) ⟨nI_in (by omega) (by omega), nI_in (by omega) (by omega), by rw [nI_1]; exact nI_in (by omega) (by omega), nI_in (by omega) (by omega), ?_⟩)
      rw [nI_1, eq, e1, e2, sI_off _ a0, ga]
      rintro _ rfl
      rw [nI_1, show nI (o + 9 + 2 * q) + 2 = nI (o + 9 + 2 * (q + 1)) by rw [show (2 : Int32) = nI 2 from rfl, nI_add]; congr 1]
      refine W _ ((f.I (by decide) (by decide)).I (by decide) (by decide)) ?_ (fun z hz => ?_) (fun q' hq' => ?_)
      · rw [sI_off _ (by decide), sI_off _ (by decide)]; exact f1
      · rw [sI_off _ (by decide), sI_off _ (by decide), sI_off _ (by decide), sI_off _ (by decide)]; exact f2 z hz
      · show g.1 a (o + 9 + 2 * q') = upd (g1.1 1060) q (g.1 a (o + 9 + 2 * q)) q' ∧ g.1 a (o + 10 + 2 * q') = upd (g1.1 1061) q (g.1 a (o + 9 + 2 * q + 1)) q'
        by_cases c : q' = q
        · subst c
          rw [upd_at, upd_at, show o + 10 + 2 * q' = o + 9 + 2 * q' + 1 by omega]
          exact ⟨rfl, rfl⟩
        · rw [upd_off _ _ c, upd_off _ _ c]; exact f3 q' (by omega)
  have L1 : ∀ z, z ≤ 4 → ∀ g1, fr uL [31] g g1 → g1.1 1046 31 = g.1 a o → (∀ z', z' < z → g.1 a (o + 1 + z') = g1.1 1062 z' ∧ g.1 a (o + 5 + z') = g1.1 1063 z') → hwv d zm_X8_unpack kv X 9 [(0, .ref 1046), (1, .ref a), (2, .int (nI o)), (3, .int (nI z))] g1 e := by
    refine hdown ?_ ?_
    · intro g1 f f1 f2
      refine zh_X8_unpack_9 ha (zbr_t (by decide) ?_)
      have := L2 0 (by omega) g1 f f1 f2 (fun q' h => absurd h (by omega))
      rw [show nI o + 1 + 8 = nI (o + 9 + 2 * 0) by rw [nI_1, show (8 : Int32) = nI 8 from rfl, nI_add]]
      exact this
    · intro z hz W g1 f f1 f2
      have ga : g1.1 a = g.1 a := f.1 a ua a6
      have e1 : nI o + 1 + nI z = nI (o + 1 + z) := by rw [nI_1, nI_add]
      have e2 : nI o + 1 + 4 + nI z = nI (o + 5 + z) := by rw [nI_1, show (4 : Int32) = nI 4 from rfl, nI_add, nI_add]
      refine zh_X8_unpack_9 ha (zbr_f (by rw [show (4 : Int32) = nI 4 from rfl]; exact nI_ge hz (by omega)) ?_)
      rw [e1, e2, nI_clamp (show z < 2 ^ 31 by omega), nI_clamp (show o + 1 + z < 2 ^ 31 by omega), nI_clamp (show o + 5 + z < 2 ^ 31 by omega), sI_off _ a2, ga]
      refine ⟨nI_in (by omega) (by omega), nI_in (by omega) (by omega), nI_in (by omega) (by omega), nI_in (by omega) (by omega), ?_⟩
      rintro _ rfl
      rw [nI_1]
      refine W _ ((f.I (by decide) (by decide)).I (by decide) (by decide)) ?_ (fun z' hz' => ?_)
      · rw [sI_off _ (by decide), sI_off _ (by decide)]; exact f1
      · show g.1 a (o + 1 + z') = upd (g1.1 1062) z (g.1 a (o + 1 + z)) z' ∧ g.1 a (o + 5 + z') = upd (g1.1 1063) z (g.1 a (o + 5 + z)) z'
        by_cases c : z' = z
        · subst c
          rw [upd_at, upd_at]
          exact ⟨rfl, rfl⟩
        · rw [upd_off _ _ c, upd_off _ _ c]; exact f2 z' (by omega)
  exact L1 0 (by omega) (sI g 1046 31 (g.1 a o)) (fr.refl.F (by decide)) (by rw [sI_at, upd_at]) (fun z' h => absurd h (by omega))
theorem cm_beginAnew (H : ∀ g', fr [1069] [] g g' → (∀ z, z < 4 → g'.1 1069 z = 0) → kv g' e) : hcv (d + 1) 266 [.ref 1046] g e kv X := by
  refine zh_X8_beginAnew ?_
  have : ∀ z, z ≤ 4 → ∀ g', fr [1069] [] g g' → (∀ z', z' < z → g'.1 1069 z' = 0) → hwv d zm_X8_beginAnew kv X 2 [(0, .ref 1046), (1, .int (nI z))] g' e := by
    refine hdown ?_ ?_
    · intro g' f h
      exact zh_X8_beginAnew_2 (zbr_t (by decide) (H g' f h))
    · intro z hz W g' f h
      refine zh_X8_beginAnew_2 (zbr_f (by rw [show (4 : Int32) = nI 4 from rfl]; exact nI_ge hz (by omega)) ⟨nI_in hz (by omega), ?_⟩)
      rw [nI_1, nI_clamp (by omega)]
      refine W _ (f.I (by decide) (by decide)) (fun z' hz' => ?_)
      rw [sI_at]
      by_cases c : z' = z
      · subst c; rw [upd_at]
      · rw [upd_off _ _ c]; exact h z' (by omega)
  exact this 0 (by omega) g fr.refl (fun z' h => absurd h (by omega))
/-- what is asked goes on from the row that is kept; then it is put back -/
theorem cm_put {x : sX} (hk : mdr g x) {f : Nat → Int32} {L F : List Nat} {g1 : hG} (h1 : pk f 0 g) (hf : fr L F g g1) (hr : g1.1 1070 = f) (hL : ∀ b, b ∈ [1050, 1051, 1052, 1055, 1056, 1057] → ¬ b ∈ L) (hL2 : ∀ b, b ∈ uL → b ∈ L) (hF : 31 ∈ F) (H : ∀ g', fr L F g g' → mdr g' x → g'.1 1070 = f → fr uL [31] g1 g' → kv g' e) : hcv (d + 1) 250 [.ref 1046, .ref 1070, .int 0] g1 e kv X := by
  refine cm_unpack (o := 0) (show hT 1070 = some (.inl (0, 137)) from rfl) (by decide) (by decide) (by decide) (fun g2 f2 p2 => ?_)
  have f3 : fr L F g g2 := hf.trans (f2.sub hL2 (fun b hb => by rw [List.mem_singleton.mp hb]; exact hF))
  refine H g2 f3 (mdr_pk hk f3 hL h1 ?_) ?_ f2
  · rw [hr] at p2; exact p2
  · rw [f2.1 1070 (by decide) (by decide)]; exact hr
end
