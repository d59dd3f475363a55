/-! rounds end; how many burst -/
def cl (C : Int32) : Nat → Nat
  | 0 => 0
  | p + 1 => cl C p + (if bt C p = true then 1 else 0)
theorem cl_le (C : Int32) : ∀ n, cl C n ≤ n
  | 0 => Nat.le_refl _
  | n + 1 => by
    have := cl_le C n
    unfold cl
    split <;> omega
theorem cl_clr {C : Int32} {p : Nat} (hp : p < 32) : ∀ n, cl (C &&& (bit p ^^^ (-1))) n + (if p < n ∧ bt C p = true then 1 else 0) = cl C n
  | 0 => by simp [cl]
  | n + 1 => by
    have ih := cl_clr (C := C) hp n
    unfold cl
    rw [bt_clr _ hp]
    by_cases e : n = p
    · subst e
      rw [if_neg (by omega)] at ih
      simp only [decide_true, Bool.not_true, Bool.and_false, Bool.false_eq_true, if_false, Nat.lt_succ_self, true_and]
      omega
    · have e2 : (p < n + 1) = (p < n) := by apply propext; omega
      simp only [e2, e, decide_false, Bool.not_false, Bool.and_true]
      omega
section
variable {pl wl : List tk} {st day : Int32}
theorem sstep_cl {x : sD} {p : Nat} (hp : p < x.1.1) (hn : x.1.1 ≤ 16) : cl (sstep pl wl st day x p).1.2.2.2.2.1 x.1.1 ≤ cl x.1.2.2.2.2.1 x.1.1 ∧ (x.2.2.2 = false → (sstep pl wl st day x p).2.2.2 = true → cl (sstep pl wl st day x p).1.2.2.2.2.1 x.1.1 < cl x.1.2.2.2.2.1 x.1.1) := by
  unfold sstep
  split
  · rename_i c
    have := cl_clr (C := x.1.2.2.2.2.1) (p := p) (by omega) x.1.1
    rw [if_pos ⟨hp, c.1⟩] at this
    show cl (x.1.2.2.2.2.1 &&& (bit p ^^^ (-1))) x.1.1 ≤ _ ∧ (_ → _ → cl (x.1.2.2.2.2.1 &&& (bit p ^^^ (-1))) x.1.1 < _)
    exact ⟨by omega, fun _ _ => by omega⟩
  · exact ⟨Nat.le_refl _, fun h1 h2 => by rw [h1] at h2; cases h2⟩
theorem srnd_cl {x : sD} (hn : x.1.1 ≤ 16) : ∀ p, p ≤ x.1.1 → cl (srnd pl wl st day x p).1.2.2.2.2.1 x.1.1 ≤ cl x.1.2.2.2.2.1 x.1.1 ∧ ((srnd pl wl st day x p).2.2.2 = true → cl (srnd pl wl st day x p).1.2.2.2.2.1 x.1.1 < cl x.1.2.2.2.2.1 x.1.1)
  | 0, _ => ⟨Nat.le_refl _, fun h => by cases h⟩
  | p + 1, hp => by
    obtain ⟨a, b⟩ := srnd_cl hn p (by omega)
    have hx := srnd_n (pl := pl) (wl := wl) (st := st) (day := day) x p
    obtain ⟨c, e⟩ := sstep_cl (pl := pl) (wl := wl) (st := st) (day := day) (x := srnd pl wl st day x p) (p := p) (by omega) (by omega)
    rw [hx] at c e
    show cl (sstep pl wl st day (srnd pl wl st day x p) p).1.2.2.2.2.1 x.1.1 ≤ _ ∧ ((sstep pl wl st day (srnd pl wl st day x p) p).2.2.2 = true → cl (sstep pl wl st day (srnd pl wl st day x p) p).1.2.2.2.2.1 x.1.1 < _)
    refine ⟨Nat.le_trans c a, fun h => ?_⟩
    cases q : (srnd pl wl st day x p).2.2.2 with
    | true => exact Nat.lt_of_le_of_lt c (b q)
    | false => exact Nat.lt_of_lt_of_le (e q h) a
/-- as many rounds as places are closed, and one, are enough -/
theorem sdk_end : ∀ (m : Nat) (x : sD), x.1.1 ≤ 16 → cl x.1.2.2.2.2.1 x.1.1 ≤ m → ∀ j, sdk pl wl st day (m + 1 + j) x = sdk pl wl st day (m + 1) x
  | 0, x, hn, hm, j => by
    have h := (srnd_cl (pl := pl) (wl := wl) (st := st) (day := day) hn x.1.1 (Nat.le_refl _)).2
    have hf : ¬ (srnd pl wl st day x x.1.1).2.2.2 = true := fun z => by have := h z; omega
    rw [show 0 + 1 + j = j + 1 by omega]
    unfold sdk
    rw [if_neg hf, if_neg hf]
  | m + 1, x, hn, hm, j => by
    have h := (srnd_cl (pl := pl) (wl := wl) (st := st) (day := day) hn x.1.1 (Nat.le_refl _)).2
    rw [show m + 1 + 1 + j = (m + 1 + j) + 1 by omega]
    unfold sdk
    split
    · rename_i c
      have := h c
      exact sdk_end m _ (by rw [srnd_n]; exact hn) (by rw [srnd_n]; omega) j
    · rfl
theorem sday_end {s : sZ} (hn : s.1 ≤ 16) {m : Nat} (hm : cl s.2.2.2.2.1 s.1 ≤ m) (h16 : m ≤ 16) : sdk pl wl st day (m + 1) (s, 0, -1, false) = sday pl wl st day s := by
  unfold sday
  have := sdk_end (pl := pl) (wl := wl) (st := st) (day := day) m (s, 0, -1, false) hn hm (16 - m)
  rw [show m + 1 + (16 - m) = 17 by omega] at this
  exact this.symm
end
theorem pnk_bit : ∀ (p k v : Nat), p < k → v / 2 ^ p % 2 = 0 → pnk k (v + 2 ^ p) = pnk k v + 1
  | 0, k + 1, v, _, h => by
    have h : v % 2 = 0 := by simpa using h
    show (v + 1) % 2 + pnk k ((v + 1) / 2) = v % 2 + pnk k (v / 2) + 1
    rw [show (v + 1) % 2 = 1 by omega, show (v + 1) / 2 = v / 2 by omega]
    omega
  | p + 1, k + 1, v, hp, h => by
    show (v + 2 ^ (p + 1)) % 2 + pnk k ((v + 2 ^ (p + 1)) / 2) = v % 2 + pnk k (v / 2) + 1
    have e : 2 ^ (p + 1) = 2 * 2 ^ p := by rw [Nat.pow_succ]; omega
    rw [show (v + 2 ^ (p + 1)) % 2 = v % 2 by omega, show (v + 2 ^ (p + 1)) / 2 = v / 2 + 2 ^ p by omega]
    have := pnk_bit p k (v / 2) (by omega) (by rw [Nat.div_div_eq_div_mul, ← e]; exact h)
    omega
  | 0, 0, _, h, _ => absurd h (by omega)
  | p + 1, 0, _, h, _ => absurd h (by omega)
theorem bt_nI {v p : Nat} (hv : v < 2 ^ 32) (hp : p < 32) : bt (nI v) p = decide (v / 2 ^ p % 2 = 1) := by
  unfold bt nI
  show (BitVec.ofNat 32 v).getLsbD p = _
  rw [BitVec.getLsbD_ofNat]
  simp [hp, Nat.testBit_eq_decide_div_mod_eq]
theorem or_bit {v p : Nat} (hv : v < 2 ^ 17) (hp : p < 17) (h : v / 2 ^ p % 2 = 0) : nI v ||| bit p = nI (v + 2 ^ p) := by
  have e1 : bit p = nI (2 ^ p) := by
    have : ∀ p, p < 17 → bit p = nI (2 ^ p) := by decide +kernel
    exact this p hp
  have h0 : nI v &&& bit p = 0 := by
    apply bt_ext
    intro q hq
    rw [bt_and, bt_bit (by omega), bt_zero, bt_nI (by omega) hq]
    by_cases e : q = p
    · subst e
      rw [h]
      rfl
    · simp [e]
  rw [← nI_add, ← e1]
  apply Int32.toBitVec_inj.mp
  rw [Int32.toBitVec_or, Int32.toBitVec_add]
  have h1 := congrArg Int32.toBitVec h0
  rw [Int32.toBitVec_and] at h1
  exact (BitVec.add_eq_or_of_and_eq_zero _ _ h1).symm
theorem jbc_or {b : Int32} {p : Nat} (hb : ∀ q, bt b q = true → q < 16) (hp : p < 16) (h : bt b p = false) : jbc (b ||| bit p) = jbc b + 1 := by
  obtain ⟨v, hv, rfl⟩ := bits_nI (n := 16) (by omega) hb
  have h0 : v / 2 ^ p % 2 = 0 := by
    rw [bt_nI (by omega) (by omega)] at h
    have := of_decide_eq_false h
    omega
  have h2 : 2 ^ p ≤ 2 ^ 15 := Nat.pow_le_pow_right (by omega) (by omega)
  rw [or_bit (by omega) (by omega) h0, jbc_nI (by omega), jbc_nI (by omega), jn_pn (by omega), jn_pn (by omega), pnk_bit p 17 v (by omega) h0, nI_succ]
