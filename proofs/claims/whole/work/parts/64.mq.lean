/-! the model's helpers -/
theorem lg_lt (x y : Int64) : lg_cmp x y < 0 ↔ x < y := by
  unfold lg_cmp
  by_cases h1 : x > y
  · rw [if_pos h1]
    exact ⟨fun h => absurd h (by decide), fun h => absurd (Int64.lt_trans h h1) Int64.lt_irrefl⟩
  · rw [if_neg h1]
    by_cases h2 : x = y
    · rw [if_pos h2]; subst h2; exact ⟨fun h => absurd h (by decide), fun h => absurd h Int64.lt_irrefl⟩
    · rw [if_neg h2]
      refine ⟨fun _ => ?_, fun _ => by decide⟩
      have h1 : x ≤ y := Int64.not_lt.mp h1
      exact Int64.lt_of_le_of_ne h1 h2
theorem lg_gt (x y : Int64) : 0 < lg_cmp x y ↔ y < x := by
  unfold lg_cmp
  by_cases h1 : x > y
  · rw [if_pos h1]; exact ⟨fun _ => h1, fun _ => by decide⟩
  · rw [if_neg h1]
    refine ⟨fun h => ?_, fun h => absurd h h1⟩
    by_cases h2 : x = y
    · rw [if_pos h2] at h; exact absurd h (by decide)
    · rw [if_neg h2] at h; exact absurd h (by decide)
theorem l_lt (x y : Int32) : x.toInt64 < y.toInt64 ↔ x < y := by
  rw [Int64.lt_iff_toInt_lt, Int32.toInt_toInt64, Int32.toInt_toInt64, Int32.lt_iff_toInt_lt]
/-- how a row keeps the model's zips and day -/
def pk (f : Nat → Int32) (o : Nat) (g : hG) : Prop := f o = g.1 1046 31 ∧ (∀ z, z < 4 → f (o + 1 + z) = g.1 1062 z ∧ f (o + 5 + z) = g.1 1063 z) ∧ ∀ q, q < 64 → f (o + 9 + 2 * q) = g.1 1060 q ∧ f (o + 10 + 2 * q) = g.1 1061 q
section
variable {d : Nat} {k : Int32 → hG → hE → Prop} {kv : hG → hE → Prop} {X : Nat → hG → hE → Prop} {g : hG} {e : hE}
theorem cm_isIn {v a b : Int32} (H1 : ¬ v < a → v ≤ b → k 1 g e) (H0 : v < a ∨ ¬ v ≤ b → k 0 g e) : hci (d + 1) 217 [.long v.toInt64, .long a.toInt64, .long b.toInt64] g e k X := by
  refine zh_X8_isIn ⟨fun c => ?_, fun c => ⟨fun c2 => ?_, fun c2 => ?_⟩⟩
  · exact H0 (Or.inl ((l_lt _ _).mp ((lg_lt _ _).mp c)))
  · exact H0 (Or.inr (Int32.not_le.mpr ((l_lt _ _).mp ((lg_gt _ _).mp c2))))
  · exact H1 (fun z => c ((lg_lt _ _).mpr ((l_lt _ _).mpr z))) (Int32.not_lt.mp (fun z => c2 ((lg_gt _ _).mpr ((l_lt _ _).mpr z))))
/-- among n places -/
theorem cm_isInZ {v b : Int32} {n : Nat} (hn : n < 2 ^ 30) (hb : b = nI n - 1) (H1 : ∀ i, i < n → v = nI i → k 1 g e) (H0 : ¬ isz n v → k 0 g e) : hci (d + 1) 217 [.long v.toInt64, .long 0, .long b.toInt64] g e k X := by
  have key : v ≤ b ↔ v < nI n := by
    subst hb
    rw [Int32.le_iff_toInt_le, Int32.lt_iff_toInt_lt, show (nI n - 1).toInt = (n : Int) - 1 from pk_sub_toInt (b := 1) (by omega) (by omega), nI_toInt (by omega)]
    omega
  refine cm_isIn (a := 0) (fun c c2 => ?_) (fun c => H0 ?_)
  · rcases isz_or (show n < 2 ^ 31 by omega) v with h | h
    · obtain ⟨i, hi, rfl⟩ := h
      exact H1 i hi rfl
    · exact absurd h (fun z => z.elim c (fun z => absurd (key.mp c2) (Int32.not_lt.mpr z)))
  · refine isz_not (by omega) (c.imp_right (fun z => ?_))
    exact Int32.not_lt.mp (fun y => z (key.mpr y))
/-- from a to b -/
theorem cm_isInR {v : Int32} {a b : Nat} {la lb : Int64} (ha : a < 2 ^ 30) (hb : b < 2 ^ 30) (ea : la = (nI a).toInt64) (eb : lb = (nI b).toInt64) (H1 : ∀ i, a ≤ i → i ≤ b → v = nI i → k 1 g e) (H0 : ¬ isr a b v → k 0 g e) : hci (d + 1) 217 [.long v.toInt64, .long la, .long lb] g e k X := by
  subst ea
  subst eb
  refine cm_isIn (fun c c2 => ?_) (fun c => H0 (isr_not hb c))
  rcases isr_or ha hb v with h | h | h
  · obtain ⟨i, h1, h2, rfl⟩ := h
    exact H1 i h1 h2 rfl
  · exact absurd h c
  · exact absurd c2 h.2
theorem cm_isZip {nz : Nat} (hz : g.1 1050 0 = nI nz) (h4 : nz ≤ 4) {v : Int32} (H1 : ∀ i, i < nz → v = nI i → k 1 g e) (H0 : ¬ isz nz v → k 0 g e) : hci (d + 2) 220 [.ref 1046, .int v] g e k X :=
  zh_X8_isZip (cm_isInZ (by omega) (by rw [hz]) (fun i hi hv => ⟨Or.inr rfl, H1 i hi hv⟩) (fun h => ⟨Or.inl rfl, H0 h⟩))
theorem cm_isPlace {nz : Nat} {zs : Nat → sZ} (hm : ms g nz zs) {v p : Int32} (H1 : ∀ i, i < nz → v = nI i → ∀ j, j < (zs i).1 → p = nI j → k 1 g e) (H0 : ¬ isz nz v → k 0 g e) (H0' : ∀ i, i < nz → v = nI i → ¬ isz (zs i).1 p → k 0 g e) : hci (d + 3) 221 [.ref 1046, .int v, .int p] g e k X := by
  have h4 := hm.1.2
  refine zh_X8_isPlace (cm_isZip hm.1.1 h4 (fun i hi hv => zbr_f (by decide) ?_) (fun h => zbr_t rfl (H0 h)))
  subst hv
  have h16 := (hm.2 i hi).2.1.2
  refine ⟨nI_in (by omega) (by omega), cm_isInZ (n := (zs i).1) (by omega) ?_ (fun j hj hp => zbr_f (by decide) (H1 i hi rfl j hj hp)) (fun h => zbr_t rfl (H0' i hi rfl h))⟩
  rw [nI_clamp (by omega), (hm.2 i hi).1.1]
theorem cm_fail {c : Int32} (H : k 0 (sI g 1046 4 c) e) : hci (d + 1) 215 [.ref 1046, .int c] g e k X := zh_X8_fail H
theorem cm_pack {a n o : Nat} (ha : hT a = some (.inl (0, n))) (hn : n < 2 ^ 20) (ho : o + 137 ≤ n) (h0 : ¬ a = 1060 ∧ ¬ a = 1061 ∧ ¬ a = 1062 ∧ ¬ a = 1063 ∧ ¬ a = 1046) (H : ∀ f, pk f o g → (∀ i, i < o ∨ o + 137 ≤ i → f i = g.1 a i) → kv (aI g a f) e) : hcv (d + 1) 249 [.ref 1046, .ref a, .int (nI o)] g e kv X := by
  have k0 : ∀ f, (aI g a f).1 1060 = g.1 1060 ∧ (aI g a f).1 1061 = g.1 1061 ∧ (aI g a f).1 1062 = g.1 1062 ∧ (aI g a f).1 1063 = g.1 1063 := fun f => ⟨aI_off _ _ (fun z => h0.1 z.symm), aI_off _ _ (fun z => h0.2.1 z.symm), aI_off _ _ (fun z => h0.2.2.1 z.symm), aI_off _ _ (fun z => h0.2.2.2.1 z.symm)⟩
  refine zh_X8_pack ha ⟨nI_in (by omega) (by omega), ?_⟩
  rw [nI_clamp (by omega)]
  have L2 : ∀ q, q ≤ 64 → ∀ f, f o = g.1 1046 31 → (∀ z, z < 4 → f (o + 1 + z) = g.1 1062 z ∧ f (o + 5 + z) = g.1 1063 z) → (∀ q', q' < q → f (o + 9 + 2 * q') = g.1 1060 q' ∧ f (o + 10 + 2 * q') = g.1 1061 q') → (∀ i, i < o ∨ o + 137 ≤ i → f i = g.1 a i) → hwv d zm_X8_pack kv X 58 [(0, .ref 1046), (1, .ref a), (3, .int (nI (o + 9 + 2 * q))), (4, .int (nI q))] (aI g a f) e := by
    refine hdown ?_ ?_
    · intro f f1 f2 f3 f4
      exact zh_X8_pack_58 ha (zbr_t (by decide) (H f ⟨f1, f2, f3⟩ f4))
    · intro q hq W f f1 f2 f3 f4
      have eq : (nI q).toNatClampNeg = q := nI_clamp (by omega)
      have e1 : (nI (o + 9 + 2 * q)).toNatClampNeg = o + 9 + 2 * q := nI_clamp (by omega)
      have e2 : (nI (o + 9 + 2 * q + 1)).toNatClampNeg = o + 9 + 2 * q + 1 := nI_clamp (by omega)
      refine zh_X8_pack_58 ha (zbr_f (by rw [show (64 : Int32) = nI 64 from rfl]; exact nI_ge hq (by omega)) ⟨nI_in (by omega) (by omega), nI_in (by omega) (by omega), nI_in (by omega) (by omega), by rw [nI_1]; exact nI_in (by omega) (by omega), ?_⟩)
      rw [nI_1, eq, e1, e2, sI_aI, (k0 _).1, (k0 _).2.1, sI_aI]
      rintro _ rfl
      rw [nI_1, show nI (o + 9 + 2 * q) + 2 = nI (o + 9 + 2 * (q + 1)) by rw [show (2 : Int32) = nI 2 from rfl, nI_add]; congr 1]
      refine W _ ?_ (fun z hz => ?_) (fun q' hq' => ?_) (fun i hi => ?_)
      · rw [upd_off _ _ (by omega), upd_off _ _ (by omega)]; exact f1
      · rw [upd_off _ _ (by omega), upd_off _ _ (by omega), upd_off _ _ (by omega), upd_off _ _ (by omega)]; exact f2 z hz
      · by_cases c : q' = q
        · subst c
          rw [upd_off _ _ (by omega), upd_at, show o + 10 + 2 * q' = o + 9 + 2 * q' + 1 by omega, upd_at]
          exact ⟨rfl, rfl⟩
        · rw [upd_off _ _ (by omega), upd_off _ _ (by omega), upd_off _ _ (by omega), upd_off _ _ (by omega)]; exact f3 q' (by omega)
      · rw [upd_off _ _ (by omega), upd_off _ _ (by omega)]; exact f4 i hi
  have L1 : ∀ z, z ≤ 4 → ∀ f, f o = g.1 1046 31 → (∀ z', z' < z → f (o + 1 + z') = g.1 1062 z' ∧ f (o + 5 + z') = g.1 1063 z') → (∀ i, i < o ∨ o + 137 ≤ i → f i = g.1 a i) → hwv d zm_X8_pack kv X 9 [(0, .ref 1046), (1, .ref a), (2, .int (nI o)), (3, .int (nI z))] (aI g a f) e := by
    refine hdown ?_ ?_
    · intro f f1 f2 f4
      refine zh_X8_pack_9 ha (zbr_t (by decide) ?_)
      have := L2 0 (by omega) f f1 f2 (fun q' h => absurd h (by omega)) f4
      rw [show nI o + 1 + 8 = nI (o + 9 + 2 * 0) by rw [nI_1, show (8 : Int32) = nI 8 from rfl, nI_add]]
      exact this
    · intro z hz W f f1 f2 f4
      have e1 : nI o + 1 + nI z = nI (o + 1 + z) := by rw [nI_1, nI_add]
      have e2 : nI o + 1 + 4 + nI z = nI (o + 5 + z) := by rw [nI_1, show (4 : Int32) = nI 4 from rfl, nI_add, nI_add]
      refine zh_X8_pack_9 ha (zbr_f (by rw [show (4 : Int32) = nI 4 from rfl]; exact nI_ge hz (by omega)) ?_)
      rw [e1, e2, nI_clamp (show z < 2 ^ 31 by omega), nI_clamp (show o + 1 + z < 2 ^ 31 by omega), nI_clamp (show o + 5 + z < 2 ^ 31 by omega), sI_aI, (k0 _).2.2.1, (k0 _).2.2.2, sI_aI]
      refine ⟨nI_in (by omega) (by omega), nI_in (by omega) (by omega), nI_in (by omega) (by omega), nI_in (by omega) (by omega), ?_⟩
      rintro _ rfl
      rw [nI_1]
      refine W _ ?_ (fun z' hz' => ?_) (fun i hi => ?_)
      · rw [upd_off _ _ (by omega), upd_off _ _ (by omega)]; exact f1
      · by_cases c : z' = z
        · subst c
          rw [upd_off _ _ (by omega), upd_at, upd_at]
          exact ⟨rfl, rfl⟩
        · rw [upd_off _ _ (by omega), upd_off _ _ (by omega), upd_off _ _ (by omega), upd_off _ _ (by omega)]; exact f2 z' (by omega)
      · rw [upd_off _ _ (by omega), upd_off _ _ (by omega)]; exact f4 i hi
  have := L1 0 (by omega) (upd (g.1 a) o (g.1 1046 31)) (upd_at _ _ _) (fun z' h => absurd h (by omega)) (fun i hi => upd_off _ _ (by omega))
  exact this
end
