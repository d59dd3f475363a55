/-! bits of ints and longs -/
def bt (x : Int32) (p : Nat) : Bool := x.toBitVec.getLsbD p
theorem bt_ext {x y : Int32} (h : ∀ p, p < 32 → bt x p = bt y p) : x = y := by
  apply Int32.toBitVec_inj.mp
  exact BitVec.eq_of_getLsbD_eq (fun i hi => h i hi)
theorem bt_and (x y : Int32) (p : Nat) : bt (x &&& y) p = (bt x p && bt y p) := by simp [bt]
theorem bt_or (x y : Int32) (p : Nat) : bt (x ||| y) p = (bt x p || bt y p) := by simp [bt]
theorem bt_not (x : Int32) {p : Nat} (h : p < 32) : bt (x ^^^ (-1)) p = !bt x p := by
  have : ((-1 : Int32)).toBitVec = BitVec.allOnes 32 := by decide
  simp [bt, this, h]
theorem bt_zero (p : Nat) : bt 0 p = false := by simp [bt]
theorem bt_hi (x : Int32) {p : Nat} (h : 32 ≤ p) : bt x p = false := by unfold bt; exact BitVec.getLsbD_of_ge _ _ h
theorem sm_eq : ∀ p, p < 32 → (((nI p &&& 31).toBitVec.smod 32).toNat = p) := by decide +kernel
theorem bt_shl1 {p q : Nat} (hp : p < 32) : bt ((1 : Int32) <<< (nI p &&& 31)) q = decide (q = p) := by
  have e := sm_eq p hp
  unfold bt
  rw [Int32.toBitVec_shiftLeft]
  show (BitVec.shiftLeft _ ((nI p &&& 31).toBitVec.smod 32).toNat).getLsbD q = _
  rw [e]
  show ((1#32) <<< p).getLsbD q = _
  rw [BitVec.getLsbD_shiftLeft]
  by_cases h : q = p
  · subst h; simp [hp]
  · simp only [h, decide_false, Bool.and_eq_false_iff]
    by_cases h1 : q < p
    · simp [h1]
    · simp [h1]; omega
theorem bt_shr {x : Int32} {p : Nat} (hp : p < 32) : (x >>> (nI p &&& 31)) &&& 1 = if bt x p then 1 else 0 := by
  have e := sm_eq p hp
  apply Int32.toBitVec_inj.mp
  rw [Int32.toBitVec_and, Int32.toBitVec_shiftRight]
  show (BitVec.sshiftRight _ ((nI p &&& 31).toBitVec.smod 32).toNat) &&& 1#32 = _
  rw [e]
  apply BitVec.eq_of_getLsbD_eq
  intro i hi
  rw [BitVec.getLsbD_and, BitVec.getLsbD_sshiftRight]
  unfold bt
  by_cases h0 : i = 0
  · subst h0
    cases q : x.toBitVec.getLsbD p <;> simp [q, hp]
  · have : (1#32).getLsbD i = false := by simp; omega
    rw [this]
    cases q : x.toBitVec.getLsbD p <;> simp <;> omega
theorem bt_shr0 {x : Int32} {p : Nat} (hp : p < 32) : ((x >>> (nI p &&& 31)) &&& 1 = 0) ↔ bt x p = false := by
  rw [bt_shr hp]
  cases bt x p <;> decide
theorem bt_shr1 {x : Int32} {p : Nat} (hp : p < 32) : ((x >>> (nI p &&& 31)) &&& 1 = 1) ↔ bt x p = true := by
  rw [bt_shr hp]
  cases bt x p <;> decide
/-- a grip: four bits of a long -/
def gr (L : Int64) (p : Nat) : Int32 := ((((L : Int64).toUInt64 >>> ((4 * nI p : Int32).toInt64.toUInt64 &&& Int64.toUInt64 63)).toInt64 : Int64).toInt32) &&& 15
theorem sh4 : ∀ p, p < 16 → (((4 * nI p : Int32).toInt64.toUInt64 &&& Int64.toUInt64 63).toBitVec % 64).toNat = 4 * p := by decide +kernel
theorem m15 : ∀ j, j < 32 → (15 : Int32).toBitVec.getLsbD j = decide (j < 4) := by decide +kernel
theorem gr_bt (L : Int64) {p : Nat} (hp : p < 16) (j : Nat) : bt (gr L p) j = (decide (j < 4) && L.toBitVec.getLsbD (4 * p + j)) := by
  by_cases hj : j < 32
  · unfold bt gr
    rw [Int32.toBitVec_and, BitVec.getLsbD_and, m15 j hj, Int64.toBitVec_toInt32, UInt64.toBitVec_toInt64, UInt64.toBitVec_shiftRight, BitVec.ushiftRight_eq', sh4 p hp, Int64.toBitVec_toUInt64, BitVec.getLsbD_signExtend, BitVec.getLsbD_ushiftRight]
    by_cases h4 : j < 4
    · simp [h4, hj]; omega
    · simp [h4]
  · rw [bt_hi _ (by omega)]
    simp; omega
theorem sl4 : ∀ p, p < 16 → ((4 * nI p : Int32).toInt64 &&& 63).toBitVec.smod 64 = BitVec.ofNat 64 (4 * p) := by decide +kernel
/-- a grip is put -/
def gp (L : Int64) (p : Nat) (v : Int32) : Int64 := (L &&& ((15 <<< ((4 * nI p : Int32).toInt64 &&& 63)) ^^^ (-1))) ||| (((v : Int32).toInt64) <<< ((4 * nI p : Int32).toInt64 &&& 63))
theorem gp_bt (L : Int64) {p : Nat} (hp : p < 16) {v : Int32} (hv : ∀ j, 4 ≤ j → bt v j = false) {i : Nat} (hi : i < 64) : (gp L p v).toBitVec.getLsbD i = if 4 * p ≤ i ∧ i < 4 * p + 4 then bt v (i - 4 * p) else L.toBitVec.getLsbD i := by
  have e15 : ∀ j, j < 64 → (15 : Int64).toBitVec.getLsbD j = decide (j < 4) := by decide +kernel
  have em : ((-1 : Int64)).toBitVec = BitVec.allOnes 64 := by decide
  have ep : (BitVec.ofNat 64 (4 * p)).toNat = 4 * p := by rw [BitVec.toNat_ofNat]; omega
  have hv31 : v.toBitVec.msb = false := by
    rw [BitVec.msb_eq_getLsbD_last]
    exact hv 31 (by omega)
  unfold gp
  rw [Int64.toBitVec_or, BitVec.getLsbD_or, Int64.toBitVec_and, BitVec.getLsbD_and, Int64.toBitVec_xor, BitVec.getLsbD_xor, em, BitVec.getLsbD_allOnes, Int64.toBitVec_shiftLeft, Int64.toBitVec_shiftLeft, sl4 p hp, BitVec.shiftLeft_eq', BitVec.shiftLeft_eq', ep, BitVec.getLsbD_shiftLeft, BitVec.getLsbD_shiftLeft, Int32.toBitVec_toInt64, BitVec.getLsbD_signExtend, hv31]
  unfold bt
  by_cases h1 : 4 * p ≤ i
  · by_cases h2 : i < 4 * p + 4
    · have a1 : i - 4 * p < 4 := by omega
      have a2 : i - 4 * p < 32 := by omega
      have a3 : i - 4 * p < 64 := by omega
      have a4 : ¬ i < 4 * p := by omega
      rw [e15 (i - 4 * p) a3]
      simp only [hi, h1, h2, a1, a2, a3, a4, decide_true, decide_false, if_true, and_self, Bool.not_false, Bool.true_and, Bool.xor_true, Bool.not_true, Bool.and_false, Bool.false_or]
    · have a1 : ¬ i - 4 * p < 4 := by omega
      have a3 : i - 4 * p < 64 := by omega
      have a4 : ¬ i < 4 * p := by omega
      have := hv (i - 4 * p) (by omega)
      unfold bt at this
      rw [e15 (i - 4 * p) a3]
      simp only [hi, h1, h2, a1, a3, a4, this, decide_true, decide_false, if_true, if_false, and_true, and_false, ite_self, Bool.not_false, Bool.and_false, Bool.false_xor, Bool.and_true, Bool.or_false]
  · have a4 : i < 4 * p := by omega
    simp only [hi, h1, a4, decide_true, if_false, false_and, Bool.not_true, Bool.and_false, Bool.false_and, Bool.false_xor, Bool.and_true, Bool.or_false]
theorem gr_gp (L : Int64) {p q : Nat} (hp : p < 16) (hq : q < 16) {v : Int32} (hv : ∀ j, 4 ≤ j → bt v j = false) : gr (gp L p v) q = if q = p then v else gr L q := by
  apply bt_ext
  intro j hj
  rw [gr_bt _ hq]
  by_cases h4 : j < 4
  · rw [gp_bt L hp hv (by omega)]
    by_cases e : q = p
    · subst e
      rw [if_pos (by omega), if_pos rfl]
      simp [h4, show 4 * q + j - 4 * q = j by omega]
    · rw [if_neg (by omega), if_neg e, gr_bt _ hq]
  · by_cases e : q = p
    · rw [if_pos e, hv j (by omega)]; simp [h4]
    · rw [if_neg e, gr_bt _ hq]; simp [h4]
theorem gr_ext {L L' : Int64} (h : ∀ p, p < 16 → gr L p = gr L' p) : L = L' := by
  apply Int64.toBitVec_inj.mp
  apply BitVec.eq_of_getLsbD_eq
  intro i hi
  have := congrArg (fun x => bt x (i % 4)) (h (i / 4) (by omega))
  simp only [gr_bt _ (show i / 4 < 16 by omega)] at this
  rw [show 4 * (i / 4) + i % 4 = i by omega] at this
  simpa [show i % 4 < 4 by omega] using this
theorem gr_n (L : Int64) (p : Nat) : ∃ n : Nat, n < 16 ∧ gr L p = nI n := pk_andE _ 4 (by decide)
theorem bt_lo : ∀ n, n < 16 → ∀ j, j < 32 → 4 ≤ j → bt (nI n) j = false := by decide +kernel
theorem bt_lo' {n : Nat} (h : n < 16) (j : Nat) (hj : 4 ≤ j) : bt (nI n) j = false := by
  by_cases h2 : j < 32
  · exact bt_lo n h j h2 hj
  · exact bt_hi _ (by omega)
theorem grz : ∀ p, p < 16 → gr 0 p = 0 := by decide +kernel
