/-! what is meant: a zip (places, coil, left, right, closed, height), a day -/
abbrev sZ : Type := Nat × Nat × (Nat → Nat) × (Nat → Nat) × Int32 × Nat
def bit (p : Nat) : Int32 := 1 <<< (nI p &&& 31)
def sh (s : sZ) (p : Nat) : Nat := min (s.2.2.1 p) (s.2.2.2.1 p)
def shb (s : sZ) : Nat → Int32
  | 0 => 0
  | p + 1 => if sh s p = 0 then shb s p else shb s p ||| bit p
def sslide (s : sZ) (h : Nat) : sZ := (s.1, s.2.1, s.2.2.1, s.2.2.2.1, shb s s.1 &&& (bit h - 1), h)
def sbes (s : sZ) (p : Nat) : Int32 := (if p = 0 then 0 else if bt s.2.2.2.2.1 (p - 1) then 0 else 1) + (if s.1 ≤ p + 1 then 0 else if bt s.2.2.2.2.1 (p + 1) then 0 else 1)
def spv (pl : List tk) (s : sZ) (st day : Int32) (p : Nat) : Int32 := imx 0 (imn 99 (if pl = [] then st + 2 * sbes s p else evl (qv st (nI p) (nI (sh s p)) day (sbes s p)) pl))
def sby (wl : List tk) (s : sZ) (st day : Int32) (p : Nat) (c : Int32) : Nat := if s.2.1 = 1 then 0 else (imx 0 (imn 9 (if wl = [] then 1 else evl (qv st (nI p) (nI (sh s p)) day c) wl))).toNatClampNeg
def sbst (wl : List tk) (s : sZ) (st day : Int32) (p : Nat) (c : Int32) : sZ := (s.1, s.2.1, va_up s.2.2.1 p (s.2.2.1 p - sby wl s st day p c), va_up s.2.2.2.1 p (s.2.2.2.1 p - sby wl s st day p c), s.2.2.2.2.1 &&& (bit p ^^^ (-1)), s.2.2.2.2.2)
/-- a zip on a day: what has burst, where first, whether in this round -/
abbrev sD : Type := sZ × Int32 × Int32 × Bool
def sfire (pl : List tk) (s : sZ) (st day : Int32) (p : Nat) : Prop := bt s.2.2.2.2.1 p = true ∧ nI (sh s p) < spv pl s st day p
def sstep (pl wl : List tk) (st day : Int32) (x : sD) (p : Nat) : sD := if bt x.1.2.2.2.2.1 p = true ∧ nI (sh x.1 p) < spv pl x.1 st day p then (sbst wl x.1 st day p (jbc x.2.1), x.2.1 ||| bit p, if x.2.1 = 0 then nI p else x.2.2.1, true) else x
def srnd (pl wl : List tk) (st day : Int32) (x : sD) : Nat → sD
  | 0 => (x.1, x.2.1, x.2.2.1, false)
  | p + 1 => sstep pl wl st day (srnd pl wl st day x p) p
def sdk (pl wl : List tk) (st day : Int32) : Nat → sD → sD
  | 0, x => x
  | k + 1, x => if (srnd pl wl st day x x.1.1).2.2.2 = true then sdk pl wl st day k (srnd pl wl st day x x.1.1) else srnd pl wl st day x x.1.1
def sday (pl wl : List tk) (st day : Int32) (s : sZ) : sD := sdk pl wl st day 17 (s, 0, -1, false)
def sok (s : sZ) : Prop := (1 ≤ s.1 ∧ s.1 ≤ 16) ∧ s.2.1 ≤ 1 ∧ (∀ p, s.2.2.1 p ≤ 9) ∧ (∀ p, s.2.2.2.1 p ≤ 9) ∧ (∀ p, s.1 ≤ p → s.2.2.1 p = 0 ∧ s.2.2.2.1 p = 0) ∧ (∀ p, bt s.2.2.2.2.1 p = true → p < s.1 ∧ 0 < s.2.2.1 p ∧ 0 < s.2.2.2.1 p) ∧ s.2.2.2.2.2 ≤ s.1
theorem bt_bit {p : Nat} (hp : p < 32) (q : Nat) : bt (bit p) q = decide (q = p) := bt_shl1 hp
theorem bt_clr (C : Int32) {p : Nat} (hp : p < 32) (q : Nat) : bt (C &&& (bit p ^^^ (-1))) q = (bt C q && !decide (q = p)) := by
  by_cases hq : q < 32
  · rw [bt_and, bt_not _ hq, bt_bit hp]
  · rw [bt_hi _ (by omega), bt_hi C (by omega)]; rfl
theorem va_cases {α : Type} (P : α → Prop) {f : Nat → α} {k : Nat} {v : α} (h1 : P v) (h2 : ∀ j, P (f j)) (j : Nat) : P (va_up f k v j) := by
  unfold va_up
  split
  · exact h1
  · exact h2 j
theorem sok_bst {wl : List tk} {s : sZ} {st day c : Int32} {p : Nat} (h : sok s) (hp : p < s.1) : sok (sbst wl s st day p c) := by
  obtain ⟨h1, h2, h3, h4, h5, h6, h7⟩ := h
  refine ⟨h1, h2, fun q => ?_, fun q => ?_, fun q hq => ?_, fun q hq => ?_, h7⟩
  · exact va_cases (fun x => x ≤ 9) (by have := h3 p; omega) h3 q
  · exact va_cases (fun x => x ≤ 9) (by have := h4 p; omega) h4 q
  · have e : ¬ q = p := by have : s.1 ≤ q := hq; omega
    show va_up _ _ _ q = 0 ∧ va_up _ _ _ q = 0
    rw [va_up_off _ _ e, va_up_off _ _ e]
    exact h5 q hq
  · have hq : bt (s.2.2.2.2.1 &&& (bit p ^^^ (-1))) q = true := hq
    rw [bt_clr _ (by omega), Bool.and_eq_true] at hq
    have e : ¬ q = p := by simpa using hq.2
    show q < s.1 ∧ 0 < va_up _ _ _ q ∧ 0 < va_up _ _ _ q
    rw [va_up_off _ _ e, va_up_off _ _ e]
    exact h6 q hq.1
theorem shb_bt {s : sZ} : ∀ {n : Nat}, n ≤ 32 → ∀ q, bt (shb s n) q = (decide (q < n) && decide (0 < sh s q))
  | 0, _, q => by show bt 0 q = _; rw [bt_zero]; simp
  | n + 1, hn, q => by
    have ih := shb_bt (s := s) (n := n) (by omega) q
    unfold shb
    by_cases h0 : sh s n = 0
    · rw [if_pos h0, ih]
      by_cases e : q = n
      · subst e; simp [h0]
      · simp [show (q < n + 1) = (q < n) by apply propext; omega]
    · rw [if_neg h0, bt_or, ih, bt_bit (by omega)]
      by_cases e : q = n
      · subst e; simp; omega
      · simp [show (q < n + 1) = (q < n) by apply propext; omega, e]
theorem bm1 : ∀ h, h < 17 → ∀ q, q < 32 → bt (bit h - 1) q = decide (q < h) := by decide +kernel
theorem sslide_bt {s : sZ} (hs : s.1 ≤ 16) {h : Nat} (hh : h ≤ s.1) (q : Nat) : bt (sslide s h).2.2.2.2.1 q = (decide (q < h) && decide (0 < sh s q)) := by
  show bt (shb s s.1 &&& (bit h - 1)) q = _
  by_cases hq : q < 32
  · rw [bt_and, shb_bt (by omega), bm1 h (by omega) q hq]
    by_cases e : q < h
    · simp [e, show q < s.1 by omega]
    · simp [e]
  · rw [bt_hi _ (by omega)]; simp; intro z; omega
theorem sok_slide {s : sZ} (hs : sok s) {h : Nat} (hh : h ≤ s.1) : sok (sslide s h) := by
  obtain ⟨h1, h2, h3, h4, h5, h6, h7⟩ := hs
  refine ⟨h1, h2, h3, h4, h5, fun q hq => ?_, hh⟩
  rw [sslide_bt h1.2 hh, Bool.and_eq_true] at hq
  have a : q < h := by simpa using hq.1
  have b : 0 < sh s q := by simpa using hq.2
  unfold sh at b
  exact ⟨by show q < s.1; omega, by show 0 < s.2.2.1 q; omega, by show 0 < s.2.2.2.1 q; omega⟩
theorem bits_nI {C : Int32} {n : Nat} (hn : n ≤ 31) (h : ∀ p, bt C p = true → p < n) : ∃ v, v < 2 ^ n ∧ C = nI v := by
  refine ⟨C.toBitVec.toNat, ?_, ?_⟩
  · apply Nat.lt_pow_two_of_testBit
    intro i hi
    cases q : C.toBitVec.toNat.testBit i with
    | false => rfl
    | true => have := h i (by unfold bt; exact q); omega
  · apply Int32.toBitVec_inj.mp
    show _ = BitVec.ofNat 32 C.toBitVec.toNat
    simp
section
variable {pl wl : List tk} {st day : Int32}
theorem sstep_n (x : sD) (p : Nat) : (sstep pl wl st day x p).1.1 = x.1.1 := by unfold sstep; split <;> rfl
theorem srnd_n (x : sD) : ∀ p, (srnd pl wl st day x p).1.1 = x.1.1
  | 0 => rfl
  | p + 1 => by show (sstep pl wl st day (srnd pl wl st day x p) p).1.1 = _; rw [sstep_n, srnd_n x p]
theorem sstep_keep (x : sD) (p : Nat) : (sstep pl wl st day x p).1.2.1 = x.1.2.1 ∧ (sstep pl wl st day x p).1.2.2.2.2.2 = x.1.2.2.2.2.2 := by unfold sstep; split <;> exact ⟨rfl, rfl⟩
theorem srnd_keep (x : sD) : ∀ p, (srnd pl wl st day x p).1.2.1 = x.1.2.1 ∧ (srnd pl wl st day x p).1.2.2.2.2.2 = x.1.2.2.2.2.2
  | 0 => ⟨rfl, rfl⟩
  | p + 1 => by
    have h1 := sstep_keep (pl := pl) (wl := wl) (st := st) (day := day) (srnd pl wl st day x p) p
    have h2 := srnd_keep x p
    exact ⟨h1.1.trans h2.1, h1.2.trans h2.2⟩
theorem sok_step {x : sD} {p : Nat} (h : sok x.1) (hp : p < x.1.1) : sok (sstep pl wl st day x p).1 := by
  unfold sstep
  split
  · exact sok_bst h hp
  · exact h
theorem sok_rnd {x : sD} (h : sok x.1) : ∀ p, p ≤ x.1.1 → sok (srnd pl wl st day x p).1
  | 0, _ => h
  | p + 1, hp => sok_step (sok_rnd h p (by omega)) (by rw [srnd_n]; omega)
theorem sdk_n : ∀ (k : Nat) (x : sD), (sdk pl wl st day k x).1.1 = x.1.1
  | 0, x => rfl
  | k + 1, x => by
    unfold sdk
    split
    · rw [sdk_n k, srnd_n]
    · rw [srnd_n]
theorem sdk_keep : ∀ (k : Nat) (x : sD), (sdk pl wl st day k x).1.2.1 = x.1.2.1 ∧ (sdk pl wl st day k x).1.2.2.2.2.2 = x.1.2.2.2.2.2
  | 0, x => ⟨rfl, rfl⟩
  | k + 1, x => by
    have h2 := srnd_keep (pl := pl) (wl := wl) (st := st) (day := day) x x.1.1
    unfold sdk
    split
    · have h1 := sdk_keep k (srnd pl wl st day x x.1.1)
      exact ⟨h1.1.trans h2.1, h1.2.trans h2.2⟩
    · exact h2
theorem sok_dk : ∀ (k : Nat) (x : sD), sok x.1 → sok (sdk pl wl st day k x).1
  | 0, x, h => h
  | k + 1, x, h => by
    unfold sdk
    split
    · exact sok_dk k _ (sok_rnd h _ (Nat.le_refl _))
    · exact sok_rnd h _ (Nat.le_refl _)
theorem sok_day {s : sZ} (h : sok s) : sok (sday pl wl st day s).1 := sok_dk 17 _ h
/-- what has burst lies below n, and is open -/
def sbo (x : sD) : Prop := ∀ q, bt x.2.1 q = true → q < x.1.1 ∧ bt x.1.2.2.2.2.1 q = false
theorem sbo_step {x : sD} {p : Nat} (hn : x.1.1 ≤ 16) (h : sbo x) (hp : p < x.1.1) : sbo (sstep pl wl st day x p) := by
  unfold sstep
  split
  · intro q hq
    have hq : bt (x.2.1 ||| bit p) q = true := hq
    rw [bt_or, Bool.or_eq_true, bt_bit (by omega)] at hq
    show q < x.1.1 ∧ bt (x.1.2.2.2.2.1 &&& (bit p ^^^ (-1))) q = false
    rw [bt_clr _ (by omega)]
    rcases hq with hq | hq
    · obtain ⟨a, b⟩ := h q hq
      exact ⟨a, by rw [b]; rfl⟩
    · have hq : q = p := by simpa using hq
      subst hq
      exact ⟨hp, by simp⟩
  · exact h
theorem sbo_rnd {x : sD} (hn : x.1.1 ≤ 16) (h : sbo x) : ∀ p, p ≤ x.1.1 → sbo (srnd pl wl st day x p)
  | 0, _ => h
  | p + 1, hp => sbo_step (by rw [srnd_n]; exact hn) (sbo_rnd hn h p (by omega)) (by rw [srnd_n]; omega)
theorem sbo_dk : ∀ (k : Nat) (x : sD), x.1.1 ≤ 16 → sbo x → sbo (sdk pl wl st day k x)
  | 0, x, _, h => h
  | k + 1, x, hn, h => by
    unfold sdk
    split
    · exact sbo_dk k _ (by rw [srnd_n]; exact hn) (sbo_rnd hn h _ (Nat.le_refl _))
    · exact sbo_rnd hn h _ (Nat.le_refl _)
theorem sbo_0 (s : sZ) (f : Int32) (b : Bool) : sbo (s, 0, f, b) := fun q hq => by
  have hq : bt 0 q = true := hq
  rw [bt_zero] at hq
  cases hq
theorem sbo_day {s : sZ} (h : sok s) : sbo (sday pl wl st day s) := sbo_dk 17 _ h.1.2 (sbo_0 _ _ _)
/-- nothing bursts: all stays -/
theorem srnd_calm {x : sD} : ∀ p, (∀ q, q < p → ¬ sfire pl x.1 st day q) → srnd pl wl st day x p = (x.1, x.2.1, x.2.2.1, false)
  | 0, _ => rfl
  | p + 1, h => by
    show sstep pl wl st day (srnd pl wl st day x p) p = _
    rw [srnd_calm p (fun q hq => h q (by omega))]
    unfold sstep
    exact if_neg (h p (by omega))
theorem sday_calm {s : sZ} (h : ∀ q, q < s.1 → ¬ sfire pl s st day q) : sday pl wl st day s = (s, 0, -1, false) := by
  unfold sday sdk
  rw [srnd_calm (x := (s, 0, -1, false)) s.1 h]
  rfl
theorem bit_ne {b : Int32} {p : Nat} (hp : p < 32) : ¬ b ||| bit p = 0 := by
  intro h
  have := congrArg (fun x => bt x p) h
  simp only [bt_or, bt_bit hp, bt_zero] at this
  simp at this
theorem sstep_0 {x : sD} {p : Nat} (hp : p < 32) (h : (sstep pl wl st day x p).2.1 = 0) : ¬ sfire pl x.1 st day p ∧ sstep pl wl st day x p = x := by
  unfold sstep at h ⊢
  split at h
  · exact absurd h (bit_ne hp)
  · rename_i c
    exact ⟨c, if_neg c⟩
theorem srnd_0 {x : sD} : ∀ p, p ≤ 16 → (srnd pl wl st day x p).2.1 = 0 → (∀ q, q < p → ¬ sfire pl x.1 st day q) ∧ x.2.1 = 0
  | 0, _, h => ⟨fun q hq => absurd hq (by omega), h⟩
  | p + 1, hp, h => by
    obtain ⟨a, b⟩ := sstep_0 (by omega) h
    have h' : (srnd pl wl st day x p).2.1 = 0 := by
      have : srnd pl wl st day x (p + 1) = srnd pl wl st day x p := b
      rw [this] at h
      exact h
    obtain ⟨c, e⟩ := srnd_0 p (by omega) h'
    refine ⟨fun q hq => ?_, e⟩
    by_cases z : q = p
    · subst z
      rw [srnd_calm q c] at a
      exact a
    · exact c q (by omega)
theorem sdk_0 : ∀ (k : Nat) (x : sD), x.1.1 ≤ 16 → (sdk pl wl st day k x).2.1 = 0 → x.2.1 = 0
  | 0, x, _, h => h
  | k + 1, x, hn, h => by
    unfold sdk at h
    split at h
    · exact (srnd_0 _ hn (sdk_0 k _ (by rw [srnd_n]; exact hn) h)).2
    · exact (srnd_0 _ hn h).2
theorem sday_0 {s : sZ} (hn : s.1 ≤ 16) (h : (sday pl wl st day s).2.1 = 0) : ∀ q, q < s.1 → ¬ sfire pl s st day q := by
  unfold sday sdk at h
  split at h
  · exact (srnd_0 _ hn (sdk_0 16 _ (by rw [srnd_n]; exact hn) h)).1
  · exact (srnd_0 _ hn h).1
end
