/-! SOUNDNESS of the small machine. What is fixed for the whole law: where its own cells begin, addresses of texts, the opaque static, classes of arrays, classes and slots, the heap at the law's entry, the script. -/
abbrev zG : Type := Nat × (Nat → Nat) × Value × (Nat → ClassId) × va_G × Heap × Nat × (Nat → Int32)
abbrev zG.sz (G : zG) : Nat := G.1
abbrev zG.ra (G : zG) : Nat → Nat := G.2.1
abbrev zG.vS (G : zG) : Value := G.2.2.1
abbrev zG.ac (G : zG) : Nat → ClassId := G.2.2.2.1
abbrev zG.D (G : zG) : va_G := G.2.2.2.2.1
abbrev zG.H0 (G : zG) : Heap := G.2.2.2.2.2.1
abbrev zG.sL (G : zG) : Nat := G.2.2.2.2.2.2.1
abbrev zG.xs (G : zG) : Nat → Int32 := G.2.2.2.2.2.2.2
def zad (G : zG) (i : Nat) : Nat := if i < 1000 then G.ra i else G.sz + (i - 1000)
def zmv (G : zG) (v : Value) : Value := match v with
  | .ref i => .ref (zad G i)
  | .retAddr _ => G.vS
  | w => w
def zmx (G : zG) (x : (Nat → Int32) ⊕ (Nat → Int64) ⊕ (Nat → UInt32) ⊕ (Nat → UInt64) ⊕ (Nat → Option Nat)) : (Nat → Int32) ⊕ (Nat → Int64) ⊕ (Nat → UInt32) ⊕ (Nat → UInt64) ⊕ (Nat → Option Nat) := match x with
  | .inr (.inr (.inr (.inr f))) => .inr (.inr (.inr (.inr (fun j => (f j).map (zad G)))))
  | y => y
def zme (G : zG) (x : zC) : va_E := match x with
  | .inl (k, n, y) => .inl (G.ac k, n, zmx G y)
  | .inr (c, fs) => .inr (c, fs.map (zmv G))
/-- the bytes of the texts, by half their number -/
def ztx : Nat → List Nat
  | 0 => [59, 40, 41, 43, 45, 42, 47, 60, 61]
  | 1 => [122, 105, 112]
  | 2 => [99, 111, 105, 108]
  | 3 => [115, 116, 114, 97, 105, 110]
  | 4 => [112, 117, 108, 108, 115]
  | 5 => [119, 101, 97, 114, 115]
  | 6 => [116, 111]
  | 7 => [111, 114]
  | 8 => [97, 110, 100]
  | 9 => [110, 111, 116]
  | 10 => [112, 108, 97, 99, 101]
  | 11 => [104, 111, 108, 100]
  | 12 => [100, 97, 121]
  | 13 => [111, 112, 101, 110]
  | 14 => [98, 117, 114, 115, 116, 115]
  | 15 => [122, 105, 112]
  | 16 => [99, 111, 105, 108]
  | 17 => [115, 116, 114, 97, 105, 110]
  | 18 => [112, 108, 97, 99, 101]
  | 19 => [104, 111, 108, 100]
  | 20 => [100, 97, 121]
  | 21 => [111, 112, 101, 110]
  | 22 => [98, 117, 114, 115, 116, 115]
  | 23 => [110, 111, 116]
  | 24 => [97, 110, 100]
  | 25 => [111, 114]
  | 26 => [116, 111]
  | 27 => [112, 117, 108, 108, 115]
  | 28 => [119, 101, 97, 114, 115]
  | _ => []
/-- what was there before the law: texts, their bytes, the script -/
def zsc (G : zG) (i : Nat) : Option zC := if i = 997 then some (.inl (0, G.sL, .inl G.xs)) else if i < 58 then (if i % 2 = 0 then some (.inr (9, [.ref (i + 1), .int 0])) else some (.inl (2, (ztx (i / 2)).length, .inl (fun j => nI ((ztx (i / 2)).getD j 0))))) else none
def zRel (G : zG) (h : zH) (H : Heap) : Prop :=
  h.2.1 ≤ zNL ∧ h.2.2.1 ≤ zSL ∧ G.sz ≤ H.size ∧ (h.1 = 0 ∨ H.size + 1 = G.sz + h.1) ∧ (∀ q : Nat, q < G.sz → H[q]? = G.H0[q]?) ∧
  (∀ (i : Nat) (x : zC), 1000 ≤ i → h.2.2.2 i = some x → va_at G.D vwCl (zad G i, zme G x) H) ∧ ∀ i : Nat, i < 1000 → h.2.2.2 i = zsc G i
theorem zad_inj {G : zG} {i j : Nat} (hi : 1000 ≤ i) (hj : 1000 ≤ j) (h : zad G i = zad G j) : i = j := by
  unfold zad at h
  rw [if_neg (by omega), if_neg (by omega)] at h
  omega
theorem zad_hi {G : zG} {i : Nat} (hi : 1000 ≤ i) : zad G i = G.sz + (i - 1000) := by
  unfold zad
  rw [if_neg (by omega)]
theorem zlk_mem : ∀ {lv : List (Nat × Value)} {i : Nat} {v : Value}, zlk lv i = some v → (i, v) ∈ lv
  | [], _, _, h => by cases h
  | (j, w) :: l, i, v, h => by
    unfold zlk at h
    split at h
    · rename_i q
      cases h
      rw [Nat.eq_of_beq_eq_true q]
      exact List.mem_cons_self
    · exact List.mem_cons_of_mem _ (zlk_mem h)
theorem zkp_mem {o : Option (List Nat)} {lv : List (Nat × Value)} {q : Nat × Value} (h : q ∈ zkp o lv) : q ∈ lv := by
  unfold zkp at h
  split at h
  · exact h
  · obtain ⟨i, -, hi⟩ := List.mem_filterMap.mp h
    split at hi
    · rename_i v e
      cases hi
      exact zlk_mem e
    · cases hi
/-- the locals, as the machine has them -/
abbrev zlm (G : zG) (lv : List (Nat × Value)) : List (Nat × Value) := lv.map (fun q => (q.1, zmv G q.2))
theorem zlm_sub {G : zG} {ls : Array Slot} {n : Nat} {lv lv' : List (Nat × Value)} (h : lv_has ls n (zlm G lv)) (hs : ∀ q ∈ lv', q ∈ lv) : lv_has ls n (zlm G lv') := by
  refine ⟨h.1, h.2.1, fun q hq => ?_⟩
  obtain ⟨x, hx, e⟩ := List.mem_map.mp hq
  exact h.2.2 q (List.mem_map.mpr ⟨x, hs x hx, e⟩)
theorem zlm_kp {G : zG} {ls : Array Slot} {n : Nat} {lv : List (Nat × Value)} (o : Option (List Nat)) (h : lv_has ls n (zlm G lv)) : lv_has ls n (zlm G (zkp o lv)) := zlm_sub h (fun _ => zkp_mem)
theorem zlm_at {G : zG} {ls : Array Slot} {n : Nat} {lv : List (Nat × Value)} {i : Nat} {v : Value} (h : lv_has ls n (zlm G lv)) (hl : zlk lv i = some v) : ls[i]? = some (.val (zmv G v)) := h.2.2 (i, zmv G v) (List.mem_map.mpr ⟨(i, v), zlk_mem hl, rfl⟩)
theorem zc2_cat {G : zG} (hv : G.vS.category = 1) {v : Value} (h : zc2 v = false) : (zmv G v).category = 1 := by
  cases v <;> first | rfl | exact hv | cases h
theorem zc2_cat2 {G : zG} (hv : G.vS.category = 1) {v : Value} (h : (zmv G v).category = 2) : zc2 v = true := by
  cases v <;> first | rfl | (exact absurd (hv.symm.trans h) (by decide)) | cases h
theorem zrm_mem : ∀ {lv : List (Nat × Value)} {i : Nat} {q : Nat × Value}, q ∈ zrm lv i → q ∈ lv ∧ ¬ q.1 = i ∧ ¬ (q.1 + 1 = i ∧ zc2 q.2 = true)
  | [], _, _, h => by cases h
  | (j, w) :: l, i, q, h => by
    unfold zrm at h
    split at h
    · have := zrm_mem h
      exact ⟨List.mem_cons_of_mem _ this.1, this.2⟩
    · rename_i q1
      have q1 : ¬ j = i := Nat.ne_of_beq_eq_false q1
      split at h
      · rename_i q2
        split at h
        · have := zrm_mem h
          exact ⟨List.mem_cons_of_mem _ this.1, this.2⟩
        · rename_i q3
          have q3 : ¬ j + 1 = i := Nat.ne_of_beq_eq_false q3
          rcases List.mem_cons.mp h with rfl | h
          · exact ⟨List.mem_cons_self, q1, fun z => q3 z.1⟩
          · have := zrm_mem h
            exact ⟨List.mem_cons_of_mem _ this.1, this.2⟩
      · rename_i q2
        rcases List.mem_cons.mp h with rfl | h
        · exact ⟨List.mem_cons_self, q1, fun z => by rw [q2] at z; cases z.2⟩
        · have := zrm_mem h
          exact ⟨List.mem_cons_of_mem _ this.1, this.2⟩
/-- behind a store of one slot -/
theorem zlm_st {G : zG} (hv : G.vS.category = 1) {ls : Array Slot} {n i : Nat} {v : Value} {lv : List (Nat × Value)} (h : lv_has ls n ((i, zmv G v) :: (zlm G lv).filter (fun q => !(q.1 == i) && !(q.1 + 1 == i && q.2.category == 2)))) : lv_has ls n (zlm G ((i, v) :: zrm lv i)) := by
  refine ⟨h.1, h.2.1, fun q hq => h.2.2 q ?_⟩
  rcases List.mem_cons.mp hq with rfl | hq
  · exact List.mem_cons_self
  · obtain ⟨x, hx, rfl⟩ := List.mem_map.mp hq
    obtain ⟨a1, a2, a3⟩ := zrm_mem hx
    refine List.mem_cons_of_mem _ (List.mem_filter.mpr ⟨List.mem_map.mpr ⟨x, a1, rfl⟩, ?_⟩)
    simp only [Bool.and_eq_true, Bool.not_eq_true', beq_eq_false_iff_ne, ne_eq, Bool.and_eq_false_iff]
    refine ⟨a2, ?_⟩
    by_cases z : x.1 + 1 = i
    · exact Or.inr (fun z2 => a3 ⟨z, zc2_cat2 hv z2⟩)
    · exact Or.inl z
theorem zlm_st2 {G : zG} (hv : G.vS.category = 1) {ls : Array Slot} {n i : Nat} {v : Value} {lv : List (Nat × Value)} (h : lv_has ls n ((i, zmv G v) :: (zlm G lv).filter (fun q => !(q.1 == i) && (!(q.1 == i + 1) && !(q.1 + 1 == i && q.2.category == 2))))) : lv_has ls n (zlm G ((i, v) :: zrm (zrm lv i) (i + 1))) := by
  refine ⟨h.1, h.2.1, fun q hq => h.2.2 q ?_⟩
  rcases List.mem_cons.mp hq with rfl | hq
  · exact List.mem_cons_self
  · obtain ⟨x, hx, rfl⟩ := List.mem_map.mp hq
    obtain ⟨b1, b2, -⟩ := zrm_mem hx
    obtain ⟨a1, a2, a3⟩ := zrm_mem b1
    refine List.mem_cons_of_mem _ (List.mem_filter.mpr ⟨List.mem_map.mpr ⟨x, a1, rfl⟩, ?_⟩)
    simp only [Bool.and_eq_true, Bool.not_eq_true', beq_eq_false_iff_ne, ne_eq, Bool.and_eq_false_iff]
    refine ⟨a2, b2, ?_⟩
    by_cases z : x.1 + 1 = i
    · exact Or.inr (fun z2 => a3 ⟨z, zc2_cat2 hv z2⟩)
    · exact Or.inl z
theorem zsz_cat {G : zG} (hv : G.vS.category = 1) : ∀ (st : List Value), ((st.map (zmv G)).map fun v => v.category).sum = zsz st
  | [] => rfl
  | v :: st => by
    rw [List.map_cons, List.map_cons, List.sum_cons, zsz_cat hv st]
    show (zmv G v).category + zsz st = (match zc2 v with
      | true => 2
      | false => 1) + zsz st
    congr 1
    cases v <;> first | rfl | exact hv
theorem zpop_eq : ∀ {n : Nat} {acc st as r : List Value}, zpop n acc st = some (as, r) → ∃ l, l.length = n ∧ st = l ++ r ∧ as = l.reverse ++ acc
  | 0, acc, st, as, r, h => by
    cases h
    exact ⟨[], rfl, rfl, rfl⟩
  | n + 1, acc, [], as, r, h => by cases h
  | n + 1, acc, v :: st, as, r, h => by
    obtain ⟨l, h1, h2, h3⟩ := zpop_eq (show zpop n (v :: acc) st = some (as, r) from h)
    refine ⟨v :: l, by simp [h1], by rw [h2]; rfl, by rw [h3]; simp⟩
