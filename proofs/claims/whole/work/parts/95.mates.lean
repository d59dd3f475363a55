/-! MATES: which tape for which -/
def iI (a : Int) : Int32 := Int32.ofInt a
theorem iI_nI (n : Nat) : nI n = iI (n : Int) := by
  apply Int32.toBitVec_inj.mp
  show BitVec.ofNat 32 n = BitVec.ofInt 32 n
  rw [BitVec.ofInt_natCast]
theorem iI_add (a b : Int) : iI a + iI b = iI (a + b) := (Int32.ofInt_add a b).symm
theorem iI_to {a : Int} (h1 : -2000000 ≤ a) (h2 : a ≤ 2000000) : (iI a).toInt = a := Int32.toInt_ofInt_of_le (by show -2147483648 ≤ a; omega) (by show a < 2147483648; omega)
theorem iI_eq {a b : Int} (h1 : -2000000 ≤ a) (h2 : a ≤ 2000000) (h3 : -2000000 ≤ b) (h4 : b ≤ 2000000) : iI a = iI b ↔ a = b := ⟨fun h => by rw [← iI_to h1 h2, ← iI_to h3 h4, h], fun h => by rw [h]⟩
theorem iI_le {a b : Int} (h1 : -2000000 ≤ a) (h2 : a ≤ 2000000) (h3 : -2000000 ≤ b) (h4 : b ≤ 2000000) : iI a ≤ iI b ↔ a ≤ b := by rw [Int32.le_iff_toInt_le, iI_to h1 h2, iI_to h3 h4]
theorem iI_lt {a b : Int} (h1 : -2000000 ≤ a) (h2 : a ≤ 2000000) (h3 : -2000000 ≤ b) (h4 : b ≤ 2000000) : iI a < iI b ↔ a < b := by rw [Int32.lt_iff_toInt_lt, iI_to h1 h2, iI_to h3 h4]
theorem imx_iI {a b : Int} (h1 : -2000000 ≤ a) (h2 : a ≤ 2000000) (h3 : -2000000 ≤ b) (h4 : b ≤ 2000000) : imx (iI a) (iI b) = iI (max a b) := by
  unfold imx
  by_cases c : a < b
  · rw [if_pos ((iI_lt h1 h2 h3 h4).mpr c), Int.max_eq_right (by omega)]
  · rw [if_neg (fun z => c ((iI_lt h1 h2 h3 h4).mp z)), Int.max_eq_left (by omega)]
def mmx (f : Nat → Int) : Nat → Int
  | 0 => -1000000
  | j + 1 => max (mmx f j) (f j)
def mfi (f : Nat → Int) (M : Int) : Nat → Nat
  | 0 => 0
  | j + 1 => if mfi f M j < j then mfi f M j else if f j = M then j else j + 1
def mtf (w : Nat → Nat → Option Nat) (T : Nat → Int) (i u j : Nat) : Int := if u.testBit j = true then -1000000 else match w i j with
  | none => -1000000
  | some a => (a : Int) + T (u ||| 2 ^ j)
def mtT (w : Nat → Nat → Option Nat) (n : Nat) : Nat → Nat → Int
  | 0, _ => 0
  | r + 1, u => mmx (mtf w (mtT w n r) (n - 1 - r) u) n
def mtj (w : Nat → Nat → Option Nat) (n r u : Nat) : Nat := mfi (mtf w (mtT w n r) (n - 1 - r) u) (mtT w n (r + 1) u) n
def mtG (w : Nat → Nat → Option Nat) (n : Nat) : Nat → Nat → Nat
  | 0, _ => 0
  | r + 1, u => mtj w n r u * 4 ^ r + mtG w n r (u ||| 2 ^ mtj w n r u)
def mtF (w : Nat → Nat → Option Nat) (n : Nat) : Nat → Nat → Nat → Option Nat
  | 0, _, _ => some 0
  | r + 1, u, c => if c / 4 ^ r < n ∧ u.testBit (c / 4 ^ r) = false then (w (n - 1 - r) (c / 4 ^ r)).bind (fun a => (mtF w n r (u ||| 2 ^ (c / 4 ^ r)) (c % 4 ^ r)).map (fun b => a + b)) else none
theorem mmx_ge {f : Nat → Int} : ∀ {n j : Nat}, j < n → f j ≤ mmx f n
  | n + 1, j, h => by
    show f j ≤ max (mmx f n) (f n)
    by_cases c : j = n
    · subst c; exact Int.le_max_right _ _
    · exact Int.le_trans (mmx_ge (show j < n by omega)) (Int.le_max_left _ _)
theorem mmx_lo {f : Nat → Int} : ∀ n, -1000000 ≤ mmx f n
  | 0 => Int.le_refl _
  | n + 1 => Int.le_trans (mmx_lo n) (Int.le_max_left _ _)
theorem mmx_at {f : Nat → Int} : ∀ n, mmx f n = -1000000 ∨ ∃ j, j < n ∧ mmx f n = f j
  | 0 => .inl rfl
  | n + 1 => by
    show max (mmx f n) (f n) = _ ∨ _
    by_cases c : f n ≤ mmx f n
    · rcases mmx_at (f := f) n with h | ⟨j, h1, h2⟩
      · exact .inl (by rw [Int.max_eq_left c]; exact h)
      · exact .inr ⟨j, by omega, by show max (mmx f n) (f n) = _; rw [Int.max_eq_left c]; exact h2⟩
    · exact .inr ⟨n, by omega, by show max (mmx f n) (f n) = _; rw [Int.max_eq_right (by omega)]⟩
theorem mfi_le {f : Nat → Int} {M : Int} : ∀ n, mfi f M n ≤ n
  | 0 => Nat.le_refl _
  | n + 1 => by
    unfold mfi
    split
    · omega
    · split <;> omega
theorem mfi_sp {f : Nat → Int} {M : Int} : ∀ n, (mfi f M n < n → f (mfi f M n) = M) ∧ ∀ j, j < mfi f M n → ¬ f j = M
  | 0 => ⟨fun h => absurd h (Nat.not_lt_zero _), fun j h => absurd h (Nat.not_lt_zero _)⟩
  | n + 1 => by
    have ih := mfi_sp (f := f) (M := M) n
    have hl := mfi_le (f := f) (M := M) n
    unfold mfi
    by_cases c : mfi f M n < n
    · rw [if_pos c]
      exact ⟨fun _ => ih.1 c, ih.2⟩
    · rw [if_neg c]
      by_cases c2 : f n = M
      · rw [if_pos c2]
        exact ⟨fun _ => c2, fun j hj => ih.2 j (by omega)⟩
      · rw [if_neg c2]
        refine ⟨fun h => absurd h (by omega), fun j hj => ?_⟩
        by_cases e : j = n
        · subst e; exact c2
        · exact ih.2 j (by omega)
theorem mfi_lt {f : Nat → Int} {M : Int} {n j : Nat} (hj : j < n) (h : f j = M) : mfi f M n < n := by
  apply Nat.lt_of_not_le
  intro z
  exact (mfi_sp (f := f) (M := M) n).2 j (by omega) h
section
variable {w : Nat → Nat → Option Nat} {n : Nat}
theorem mtF_some {r u c b : Nat} (h : mtF w n (r + 1) u c = some b) : c / 4 ^ r < n ∧ u.testBit (c / 4 ^ r) = false ∧ ∃ a b', w (n - 1 - r) (c / 4 ^ r) = some a ∧ mtF w n r (u ||| 2 ^ (c / 4 ^ r)) (c % 4 ^ r) = some b' ∧ b = a + b' := by
  unfold mtF at h
  by_cases c1 : c / 4 ^ r < n ∧ u.testBit (c / 4 ^ r) = false
  · rw [if_pos c1] at h
    refine ⟨c1.1, c1.2, ?_⟩
    cases h1 : w (n - 1 - r) (c / 4 ^ r) with
    | none => rw [h1] at h; cases h
    | some a =>
      rw [h1] at h
      cases h2 : mtF w n r (u ||| 2 ^ (c / 4 ^ r)) (c % 4 ^ r) with
      | none => rw [show (some a).bind (fun a => (mtF w n r (u ||| 2 ^ (c / 4 ^ r)) (c % 4 ^ r)).map (fun b => a + b)) = (mtF w n r (u ||| 2 ^ (c / 4 ^ r)) (c % 4 ^ r)).map (fun b => a + b) from rfl, h2] at h; cases h
      | some b' =>
        rw [show (some a).bind (fun a => (mtF w n r (u ||| 2 ^ (c / 4 ^ r)) (c % 4 ^ r)).map (fun b => a + b)) = (mtF w n r (u ||| 2 ^ (c / 4 ^ r)) (c % 4 ^ r)).map (fun b => a + b) from rfl, h2] at h
        exact ⟨a, b', rfl, rfl, (Option.some.inj h).symm⟩
  · rw [if_neg c1] at h; cases h
theorem mtf_y {T : Nat → Int} {i u j a : Nat} (h1 : u.testBit j = false) (h2 : w i j = some a) : mtf w T i u j = (a : Int) + T (u ||| 2 ^ j) := by
  unfold mtf
  rw [if_neg (by rw [h1]; exact Bool.false_ne_true), h2]
theorem mtf_c (T : Nat → Int) (i u j : Nat) : mtf w T i u j = -1000000 ∨ (u.testBit j = false ∧ ∃ a, w i j = some a ∧ mtf w T i u j = (a : Int) + T (u ||| 2 ^ j)) := by
  cases h1 : u.testBit j with
  | true => exact .inl (by unfold mtf; rw [if_pos h1])
  | false =>
    cases h2 : w i j with
    | none => exact .inl (by unfold mtf; rw [if_neg (by rw [h1]; exact Bool.false_ne_true), h2])
    | some a => exact .inr ⟨rfl, a, rfl, mtf_y h1 h2⟩
theorem mt_dig {j r c : Nat} (hc : c < 4 ^ r) : (j * 4 ^ r + c) / 4 ^ r = j ∧ (j * 4 ^ r + c) % 4 ^ r = c := by
  have hp : 0 < 4 ^ r := Nat.pow_pos (by omega)
  constructor
  · rw [Nat.mul_comm, Nat.mul_add_div hp, Nat.div_eq_of_lt hc, Nat.add_zero]
  · rw [Nat.mul_comm, Nat.mul_add_mod, Nat.mod_eq_of_lt hc]
def mtP (w : Nat → Nat → Option Nat) (n r u : Nat) : Prop := 0 ≤ mtT w n r u ∧ mtT w n r u ≤ 200 * r ∧ mtG w n r u < 4 ^ r ∧ mtF w n r u (mtG w n r u) = some (mtT w n r u).toNat ∧ ∀ c a, mtF w n r u c = some a → (a : Int) ≤ mtT w n r u ∧ (c < mtG w n r u → (a : Int) < mtT w n r u)
theorem mt_ch (hw : ∀ i j a, w i j = some a → a ≤ 200) {r u : Nat} (ih : ∀ u, (mtT w n r u < 0 ∧ mtT w n r u ≤ -1000000 + 200 * r ∧ ∀ c, mtF w n r u c = none) ∨ mtP w n r u) (hr : r ≤ 4) (h0 : 0 ≤ mtT w n (r + 1) u) : mtj w n r u < n ∧ u.testBit (mtj w n r u) = false ∧ (∃ a, w (n - 1 - r) (mtj w n r u) = some a ∧ mtT w n (r + 1) u = a + mtT w n r (u ||| 2 ^ mtj w n r u)) ∧ mtP w n r (u ||| 2 ^ mtj w n r u) ∧ ∀ j, j < mtj w n r u → ¬ mtf w (mtT w n r) (n - 1 - r) u j = mtT w n (r + 1) u := by
  obtain ⟨f, hf⟩ : ∃ f, f = mtf w (mtT w n r) (n - 1 - r) u := ⟨_, rfl⟩
  obtain ⟨M, hM⟩ : ∃ M, M = mtT w n (r + 1) u := ⟨_, rfl⟩
  have hM' : M = mmx f n := by rw [hM, hf]; rfl
  have hj : mtj w n r u = mfi f M n := by rw [hM, hf]; rfl
  rw [← hM] at h0
  have lt : mfi f M n < n := by
    rcases mmx_at (f := f) n with h | ⟨j, h1, h2⟩
    · rw [hM', h] at h0; exact absurd h0 (by omega)
    · exact mfi_lt h1 (by rw [hM', h2])
  have sp := mfi_sp (f := f) (M := M) n
  have fj := sp.1 lt
  rw [← hf, ← hM, hj]
  generalize mfi f M n = j at *
  rw [hf] at fj
  rcases mtf_c (w := w) (mtT w n r) (n - 1 - r) u j with h | ⟨h1, a, h2, h3⟩
  · rw [h] at fj; rw [← fj] at h0; exact absurd h0 (by omega)
  · have ha := hw _ _ _ h2
    refine ⟨lt, h1, ⟨a, h2, by rw [← fj, h3]⟩, ?_, sp.2⟩
    rcases ih (u ||| 2 ^ j) with ⟨q1, q2, q3⟩ | q
    · rw [h3] at fj
      exact absurd h0 (by omega)
    · exact q
theorem mt_main (hn : n ≤ 4) (hw : ∀ i j a, w i j = some a → a ≤ 200) : ∀ r, r ≤ 4 → ∀ u, (mtT w n r u < 0 ∧ mtT w n r u ≤ -1000000 + 200 * r ∧ ∀ c, mtF w n r u c = none) ∨ mtP w n r u
  | 0, _, u => .inr ⟨Int.le_refl _, Int.le_refl _, by show 0 < 1; omega, rfl, fun c a h => ⟨by have := Option.some.inj h; show (a : Int) ≤ 0; omega, fun z => absurd z (Nat.not_lt_zero _)⟩⟩
  | r + 1, hr, u => by
    have ih := mt_main hn hw r (by omega)
    have ge : ∀ j, j < n → mtf w (mtT w n r) (n - 1 - r) u j ≤ mtT w n (r + 1) u := fun j hj => mmx_ge hj
    by_cases c0 : 0 ≤ mtT w n (r + 1) u
    · refine .inr ?_
      obtain ⟨j1, j2, ⟨a, j3, j4⟩, ⟨p1, p2, p3, p4, p5⟩, j5⟩ := mt_ch hw ih (by omega) c0
      have ha := hw _ _ _ j3
      obtain ⟨j, hj⟩ : ∃ j, j = mtj w n r u := ⟨_, rfl⟩
      have hG : mtG w n (r + 1) u = mtj w n r u * 4 ^ r + mtG w n r (u ||| 2 ^ mtj w n r u) := rfl
      have pr : 0 < 4 ^ r := Nat.pow_pos (by omega)
      rw [← hj] at j1 j2 j3 j4 j5 p1 p2 p3 p4 p5 hG
      obtain ⟨G, hG'⟩ : ∃ G, G = mtG w n r (u ||| 2 ^ j) := ⟨_, rfl⟩
      rw [← hG'] at p3 p4 p5 hG
      obtain ⟨d1, d2⟩ := mt_dig (j := j) p3
      have bd : j * 4 ^ r + G < 4 ^ (r + 1) := by
        have : (j + 1) * 4 ^ r ≤ 4 * 4 ^ r := Nat.mul_le_mul_right _ (by omega)
        rw [Nat.pow_succ]
        rw [Nat.add_mul] at this
        omega
      refine ⟨c0, by rw [j4]; omega, by rw [hG]; exact bd, ?_, ?_⟩
      · rw [hG]
        show (if (j * 4 ^ r + G) / 4 ^ r < n ∧ u.testBit ((j * 4 ^ r + G) / 4 ^ r) = false then (w (n - 1 - r) ((j * 4 ^ r + G) / 4 ^ r)).bind (fun a => (mtF w n r (u ||| 2 ^ ((j * 4 ^ r + G) / 4 ^ r)) ((j * 4 ^ r + G) % 4 ^ r)).map (fun b => a + b)) else none) = _
        rw [d1, d2, if_pos ⟨j1, j2⟩, j3, p4, j4]
        show some (a + _) = _
        congr 1
        omega
      · intro c b hb
        obtain ⟨q1, q2, a', b', q3, q4, q5⟩ := mtF_some hb
        have g1 := ge _ q1
        rw [mtf_y q2 q3] at g1
        have bb : (b' : Int) ≤ mtT w n r (u ||| 2 ^ (c / 4 ^ r)) := by
          rcases ih (u ||| 2 ^ (c / 4 ^ r)) with ⟨_, _, z⟩ | ⟨_, _, _, _, z⟩
          · rw [z] at q4; cases q4
          · exact (z _ _ q4).1
        refine ⟨by omega, fun hc => ?_⟩
        rw [hG] at hc
        have e : c / 4 ^ r < j ∨ c / 4 ^ r = j := by
          have : c / 4 ^ r < j + 1 := by
            rw [Nat.div_lt_iff_lt_mul pr, Nat.add_mul]
            omega
          omega
        rcases e with e | e
        · have ne := j5 _ e
          rw [mtf_y q2 q3] at ne
          omega
        · rw [e] at q3 q4
          have e3 : a' = a := by rw [j3] at q3; exact (Option.some.inj q3).symm
          have hm : c % 4 ^ r < G := by
            have := Nat.div_add_mod c (4 ^ r)
            rw [e, Nat.mul_comm] at this
            omega
          have := (p5 _ _ q4).2 hm
          rw [j4]
          omega
    · refine .inl ⟨by omega, ?_, fun c => ?_⟩
      · rcases mmx_at (f := mtf w (mtT w n r) (n - 1 - r) u) n with h | ⟨j, h1, h2⟩
        · rw [show mtT w n (r + 1) u = mmx (mtf w (mtT w n r) (n - 1 - r) u) n from rfl, h]; omega
        · have h2' : mtT w n (r + 1) u = mtf w (mtT w n r) (n - 1 - r) u j := h2
          rcases mtf_c (w := w) (mtT w n r) (n - 1 - r) u j with h | ⟨_, a, h3, h4⟩
          · rw [h2', h]; omega
          · have ha := hw _ _ _ h3
            rw [h2', h4] at c0
            rw [h2', h4]
            rcases ih (u ||| 2 ^ j) with ⟨z1, z2, _⟩ | z
            · omega
            · have := z.1; omega
      · cases hb : mtF w n (r + 1) u c with
        | none => rfl
        | some b =>
          obtain ⟨q1, q2, a', b', q3, q4, q5⟩ := mtF_some hb
          have g1 := ge _ q1
          rw [mtf_y q2 q3] at g1
          rcases ih (u ||| 2 ^ (c / 4 ^ r)) with ⟨_, _, z⟩ | z
          · rw [z] at q4; cases q4
          · have := z.1; omega
theorem mt_ok (hw : ∀ i, i < n → ∃ a, w i i = some a) : ∀ r, r ≤ n → ∀ u : Nat, (∀ j, n - r ≤ j → u.testBit j = false) → 0 ≤ mtT w n r u
  | 0, _, _, _ => Int.le_refl _
  | r + 1, hr, u, hu => by
    obtain ⟨a, ha⟩ := hw (n - 1 - r) (by omega)
    have ih := mt_ok hw r (by omega) (u ||| 2 ^ (n - 1 - r)) (fun j hj => by
      rw [Nat.testBit_or, hu j (by omega), Nat.testBit_two_pow_of_ne (by omega)]
      rfl)
    have g := mmx_ge (f := mtf w (mtT w n r) (n - 1 - r) u) (n := n) (j := n - 1 - r) (by omega)
    rw [mtf_y (hu _ (by omega)) ha] at g
    exact Int.le_trans (by omega) g
/-- the first best of rows -/
def mva (o : Option Nat) : Int := match o with
  | none => -1
  | some v => v
def mts (f : Nat → Int) : Nat → Int × Nat
  | 0 => (-1, 0)
  | c + 1 => if f c ≤ (mts f c).1 then mts f c else (f c, c)
theorem mts_at {f : Nat → Int} {G : Nat} (h0 : 0 ≤ f G) (h1 : ∀ c, f c ≤ f G) (h2 : ∀ c, c < G → f c < f G) : ∀ m, (m ≤ G → (mts f m).1 < f G) ∧ (G < m → mts f m = (f G, G))
  | 0 => ⟨fun _ => by show (-1 : Int) < _; omega, fun h => absurd h (Nat.not_lt_zero _)⟩
  | m + 1 => by
    have ih := mts_at h0 h1 h2 m
    unfold mts
    refine ⟨fun h => ?_, fun h => ?_⟩
    · split
      · exact ih.1 (by omega)
      · exact h2 m (by omega)
    · by_cases c : G < m
      · rw [ih.2 c, if_pos (h1 m)]
      · have : m = G := by omega
        subst this
        have := ih.1 (Nat.le_refl _)
        rw [if_neg (by omega)]
theorem mt_scan (hn : n ≤ 4) (hw : ∀ i j a, w i j = some a → a ≤ 200) (hi : ∀ i, i < n → ∃ a, w i i = some a) : mts (fun c => mva (mtF w n n 0 c)) (4 ^ n) = (mtT w n n 0, mtG w n n 0) := by
  have h0 := mt_ok hi n (Nat.le_refl _) 0 (fun j _ => Nat.zero_testBit j)
  rcases mt_main hn hw n hn 0 with ⟨z, _⟩ | ⟨p1, p2, p3, p4, p5⟩
  · exact absurd h0 (by omega)
  · have e : mva (mtF w n n 0 (mtG w n n 0)) = mtT w n n 0 := by
      rw [p4]
      show ((mtT w n n 0).toNat : Int) = _
      omega
    have := (mts_at (f := fun c => mva (mtF w n n 0 c)) (G := mtG w n n 0) (by show 0 ≤ mva _; rw [e]; exact h0) (fun c => ?_) (fun c hc => ?_) (4 ^ n)).2 p3
    · rw [this]
      show (mva _, _) = _
      rw [e]
    · show mva _ ≤ mva _
      rw [e]
      cases h : mtF w n n 0 c with
      | none => show (-1 : Int) ≤ _; omega
      | some a => exact (p5 c a h).1
    · show mva _ < mva _
      rw [e]
      cases h : mtF w n n 0 c with
      | none => show (-1 : Int) < _; omega
      | some a => exact (p5 c a h).2 hc
end
