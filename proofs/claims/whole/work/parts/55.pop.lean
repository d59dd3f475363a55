/-! how many bits -/
def jn1 (v : Nat) : Nat := v - Nat.land (v / 2) 1431655765
def jn2 (v : Nat) : Nat := Nat.land v 858993459 + Nat.land (v / 4) 858993459
def jn3 (v : Nat) : Nat := Nat.land (v + v / 16) 252645135
def jn4 (v : Nat) : Nat := v + v / 256
def jn5 (v : Nat) : Nat := v + v / 65536
def jn (v : Nat) : Nat := Nat.land (jn5 (jn4 (jn3 (jn2 (jn1 v))))) 63
/-- how many bits of a number are set -/
def pnk : Nat → Nat → Nat
  | 0, _ => 0
  | k + 1, v => v % 2 + pnk k (v / 2)
theorem pnk_le : ∀ (k v : Nat), v < 2 ^ k → ∀ j, pnk (k + j) v = pnk k v
  | 0, v, h, j => by
    have : v = 0 := by simpa using h
    subst this
    induction j with
    | zero => rfl
    | succ j ih =>
      show 0 % 2 + pnk (0 + j) (0 / 2) = _
      rw [show (0 : Nat) / 2 = 0 from rfl, ih]
      rfl
  | k + 1, v, h, j => by
    rw [show k + 1 + j = (k + j) + 1 by omega]
    show v % 2 + pnk (k + j) (v / 2) = v % 2 + pnk k (v / 2)
    rw [pnk_le k (v / 2) (by rw [Nat.pow_succ] at h; omega) j]
theorem pnk_0 : ∀ k, pnk k 0 = 0
  | 0 => rfl
  | k + 1 => by
    show 0 % 2 + pnk k (0 / 2) = 0
    rw [show (0 : Nat) / 2 = 0 from rfl, pnk_0 k]
theorem pnk_add : ∀ (k j a b : Nat), a < 2 ^ k → pnk (k + j) (a + 2 ^ k * b) = pnk k a + pnk j b
  | 0, j, a, b, h => by
    have : a = 0 := by simpa using h
    subst this
    simp [pnk]
  | k + 1, j, a, b, h => by
    rw [show k + 1 + j = (k + j) + 1 by omega]
    show (a + 2 ^ (k + 1) * b) % 2 + pnk (k + j) ((a + 2 ^ (k + 1) * b) / 2) = (a % 2 + pnk k (a / 2)) + pnk j b
    have e : 2 ^ (k + 1) * b = 2 * (2 ^ k * b) := by rw [Nat.pow_succ, Nat.mul_comm (2 ^ k) 2, Nat.mul_assoc]
    rw [e, show (a + 2 * (2 ^ k * b)) % 2 = a % 2 by omega, show (a + 2 * (2 ^ k * b)) / 2 = a / 2 + 2 ^ k * b by omega, pnk_add k j (a / 2) b (by rw [Nat.pow_succ] at h; omega)]
    omega
theorem land2 (a b : Nat) : Nat.land a b = (a % 2) * (b % 2) + 2 * Nat.land (a / 2) (b / 2) := by
  have h1 : (Nat.land a b) / 2 = Nat.land (a / 2) (b / 2) := by
    have := Nat.and_div_two_pow (a := a) (b := b) (n := 1)
    simpa using this
  have h2 : (Nat.land a b) % 2 = (a % 2) * (b % 2) := by
    have := Nat.and_mod_two_pow (a := a) (b := b) (n := 1)
    rw [show (2 : Nat) ^ 1 = 2 from rfl] at this
    rw [show Nat.land a b = a &&& b from rfl, this]
    rcases Nat.mod_two_eq_zero_or_one a with ha | ha <;> rcases Nat.mod_two_eq_zero_or_one b with hb | hb <;> rw [ha, hb] <;> rfl
  omega
theorem pnk_less : ∀ (k v : Nat), v < 2 ^ k → 0 < v → pnk k (Nat.land v (v - 1)) + 1 = pnk k v
  | 0, v, h, h0 => by
    have : v = 0 := by simpa using h
    omega
  | k + 1, v, h, h0 => by
    rw [land2]
    rcases Nat.mod_two_eq_zero_or_one v with hv | hv
    · have e1 : (v - 1) / 2 = v / 2 - 1 := by omega
      rw [hv, e1]
      show (0 * ((v - 1) % 2) + 2 * Nat.land (v / 2) (v / 2 - 1)) % 2 + pnk k ((0 * ((v - 1) % 2) + 2 * Nat.land (v / 2) (v / 2 - 1)) / 2) + 1 = v % 2 + pnk k (v / 2)
      rw [show 0 * ((v - 1) % 2) + 2 * Nat.land (v / 2) (v / 2 - 1) = 2 * Nat.land (v / 2) (v / 2 - 1) by omega, show 2 * Nat.land (v / 2) (v / 2 - 1) % 2 = 0 by omega, show 2 * Nat.land (v / 2) (v / 2 - 1) / 2 = Nat.land (v / 2) (v / 2 - 1) by omega, hv]
      have := pnk_less k (v / 2) (by rw [Nat.pow_succ] at h; omega) (by omega)
      omega
    · have e1 : (v - 1) / 2 = v / 2 := by omega
      have e2 : (v - 1) % 2 = 0 := by omega
      rw [hv, e1, e2, show Nat.land (v / 2) (v / 2) = v / 2 from Nat.and_self _]
      show (1 * 0 + 2 * (v / 2)) % 2 + pnk k ((1 * 0 + 2 * (v / 2)) / 2) + 1 = v % 2 + pnk k (v / 2)
      rw [show (1 * 0 + 2 * (v / 2)) % 2 = 0 by omega, show (1 * 0 + 2 * (v / 2)) / 2 = v / 2 by omega, hv]
      omega
theorem land_split (x m : Nat) : Nat.land x m = Nat.land (x % 256) (m % 256) + 256 * Nat.land (x / 256) (m / 256) := by
  have h1 := Nat.and_mod_two_pow (a := x) (b := m) (n := 8)
  have h2 := Nat.and_div_two_pow (a := x) (b := m) (n := 8)
  have e : (2 : Nat) ^ 8 = 256 := rfl
  rw [e] at h1 h2
  show x &&& m = (x % 256 &&& m % 256) + 256 * (x / 256 &&& m / 256)
  omega
def ja (a : Nat) : Nat := a - Nat.land (a / 2) 85
def jb (a : Nat) : Nat := Nat.land a 51 + Nat.land (a / 4) 51
def jF (a : Nat) : Nat := (jb (ja a) + jb (ja a) / 16) % 16
theorem jt : ∀ t, t < 256 → Nat.land t 85 = Nat.land (t % 128) 85 ∧ Nat.land t 51 = Nat.land (t % 64) 51 ∧ Nat.land t 15 = t % 16 ∧ ja t < 256 ∧ jb (ja t) ≤ 68 ∧ jb (ja t) % 16 ≤ 4 ∧ jF t = pnk 8 t ∧ Nat.land (t / 2) 85 ≤ t := by decide +kernel
theorem j3 (x m0 m1 m2 : Nat) (h : m0 < 256) (h1 : m1 < 256) : Nat.land x (m0 + 256 * (m1 + 256 * m2)) = Nat.land (x % 256) m0 + 256 * (Nat.land (x / 256 % 256) m1 + 256 * Nat.land (x / 65536) m2) := by
  rw [land_split, land_split (x / 256)]
  rw [show (m0 + 256 * (m1 + 256 * m2)) % 256 = m0 by omega, show (m0 + 256 * (m1 + 256 * m2)) / 256 = m1 + 256 * m2 by omega, show (m1 + 256 * m2) % 256 = m1 by omega, show (m1 + 256 * m2) / 256 = m2 by omega, show x / 256 / 256 = x / 65536 by omega]
theorem land0 (m : Nat) : Nat.land 0 m = 0 := Nat.zero_and m
theorem landlt {c m : Nat} (h : c < 256) : Nat.land c m = Nat.land c (m % 256) := by
  rw [land_split, show c % 256 = c by omega, show c / 256 = 0 by omega, land0]
  omega
theorem jE5 {x y z : Nat} (hx : x ≤ 8) (hy : y ≤ 8) (hz : z ≤ 8) : jn5 (jn4 (x + 256 * (y + 256 * z))) % 64 = x + y + z := by
  have e1 : jn4 (x + 256 * (y + 256 * z)) = (x + y) + 256 * ((y + z) + 256 * z) := by unfold jn4; omega
  rw [e1]
  have e2 : jn5 ((x + y) + 256 * ((y + z) + 256 * z)) = (x + y + z) + 256 * ((y + z) + 256 * z) := by unfold jn5; omega
  rw [e2]
  omega
theorem jE3 {A B C : Nat} (hA : A ≤ 68) (hB : B ≤ 68) (hC : C ≤ 68) (hb : B % 16 ≤ 4) (hc : C % 16 ≤ 4) : jn3 (A + 256 * (B + 256 * C)) = (A + A / 16) % 16 + 256 * ((B + B / 16) % 16 + 256 * ((C + C / 16) % 16)) := by
  have e1 : A + 256 * (B + 256 * C) + (A + 256 * (B + 256 * C)) / 16 = (A + A / 16 + 16 * (B % 16)) + 256 * ((B + B / 16 + 16 * (C % 16)) + 256 * (C + C / 16)) := by omega
  have q : ∀ t, t < 256 → Nat.land t 15 = t % 16 := fun t ht => (jt t ht).2.2.1
  unfold jn3
  rw [e1]
  obtain ⟨P, hP⟩ : ∃ P, P = A + A / 16 + 16 * (B % 16) := ⟨_, rfl⟩
  obtain ⟨Q, hQ⟩ : ∃ Q, Q = B + B / 16 + 16 * (C % 16) := ⟨_, rfl⟩
  obtain ⟨R, hR⟩ : ∃ R, R = C + C / 16 := ⟨_, rfl⟩
  rw [← hP, ← hQ, ← hR]
  have p1 : P < 256 := by omega
  have p2 : Q < 256 := by omega
  have p3 : R < 256 := by omega
  have p4 : P % 16 = (A + A / 16) % 16 := by omega
  have p5 : Q % 16 = (B + B / 16) % 16 := by omega
  rw [← p4, ← p5]
  clear hP hQ e1 p4 p5
  rw [show (252645135 : Nat) = 15 + 256 * (15 + 256 * 3855) from rfl, j3 _ _ _ _ (by omega) (by omega)]
  rw [show (P + 256 * (Q + 256 * R)) % 256 = P by omega, show (P + 256 * (Q + 256 * R)) / 256 % 256 = Q by omega, show (P + 256 * (Q + 256 * R)) / 65536 = R by omega, q P p1, q Q p2, landlt p3, show 3855 % 256 = 15 from rfl, q R p3]
theorem jn_pn {v : Nat} (h : v < 131072) : jn v = pnk 17 v := by
  obtain ⟨a, ha⟩ : ∃ a, a = v % 256 := ⟨_, rfl⟩
  obtain ⟨b, hb⟩ : ∃ b, b = v / 256 % 256 := ⟨_, rfl⟩
  obtain ⟨c, hc⟩ : ∃ c, c = v / 65536 := ⟨_, rfl⟩
  have hv : v = a + 256 * (b + 256 * c) := by omega
  have a1 : a < 256 := by omega
  have b1 : b < 256 := by omega
  have c1 : c < 2 := by omega
  obtain ⟨-, -, -, a4, a5, a6, a7, a8⟩ := jt a a1
  obtain ⟨-, -, -, b4, b5, b6, b7, b8⟩ := jt b b1
  obtain ⟨-, -, -, c4, c5, c6, c7, c8⟩ := jt c (by omega)
  have e1 : jn1 v = ja a + 256 * (ja b + 256 * ja c) := by
    unfold jn1
    rw [show (1431655765 : Nat) = 85 + 256 * (85 + 256 * 21845) from rfl, j3 _ _ _ _ (by omega) (by omega)]
    rw [(jt (v / 2 % 256) (by omega)).1, (jt (v / 2 / 256 % 256) (by omega)).1, landlt (c := v / 2 / 65536) (by omega)]
    rw [show v / 2 % 256 % 128 = a / 2 by omega, show v / 2 / 256 % 256 % 128 = b / 2 by omega, show v / 2 / 65536 = c / 2 by omega, show 21845 % 256 = 85 from rfl]
    unfold ja
    omega
  have e2 : jn2 (jn1 v) = jb (ja a) + 256 * (jb (ja b) + 256 * jb (ja c)) := by
    rw [e1]
    generalize hA : ja a = A at *
    generalize hB : ja b = B at *
    generalize hC : ja c = C at *
    unfold jn2
    rw [show (858993459 : Nat) = 51 + 256 * (51 + 256 * 13107) from rfl, j3 _ _ _ _ (by omega) (by omega), j3 _ _ _ _ (by omega) (by omega)]
    have q : ∀ t, t < 256 → Nat.land t 51 = Nat.land (t % 64) 51 := fun t ht => (jt t ht).2.1
    rw [q ((A + 256 * (B + 256 * C)) / 4 % 256) (by omega), q ((A + 256 * (B + 256 * C)) / 4 / 256 % 256) (by omega), landlt (c := (A + 256 * (B + 256 * C)) / 65536) (by omega), landlt (c := (A + 256 * (B + 256 * C)) / 4 / 65536) (by omega)]
    rw [show (A + 256 * (B + 256 * C)) % 256 = A by omega, show (A + 256 * (B + 256 * C)) / 256 % 256 = B by omega, show (A + 256 * (B + 256 * C)) / 65536 = C by omega, show (A + 256 * (B + 256 * C)) / 4 % 256 % 64 = A / 4 by omega, show (A + 256 * (B + 256 * C)) / 4 / 256 % 256 % 64 = B / 4 by omega, show (A + 256 * (B + 256 * C)) / 4 / 65536 = C / 4 by omega, show 13107 % 256 = 51 from rfl]
    unfold jb
    omega
  have e3 : jn3 (jn2 (jn1 v)) = jF a + 256 * (jF b + 256 * jF c) := by
    rw [e2]
    exact jE3 a5 b5 c5 b6 c6
  have f1 : jF a ≤ 8 ∧ jF b ≤ 8 ∧ jF c ≤ 8 := by
    have : ∀ t, t < 256 → pnk 8 t ≤ 8 := by decide +kernel
    rw [a7, b7, c7]
    exact ⟨this a a1, this b b1, this c (by omega)⟩
  have e5 : jn5 (jn4 (jn3 (jn2 (jn1 v)))) % 64 = jF a + jF b + jF c := by
    rw [e3]
    exact jE5 f1.1 f1.2.1 f1.2.2
  have e6 : ∀ x, Nat.land x 63 = x % 64 := fun x => Nat.and_two_pow_sub_one_eq_mod x 6
  unfold jn
  rw [e6, e5, a7, b7, c7, hv]
  have p1 := pnk_add 8 9 a (b + 256 * c) (by omega)
  have p2 := pnk_add 8 1 b c (by omega)
  have p3 := pnk_le 1 c (by omega) 7
  rw [show (2 : Nat) ^ 8 = 256 from rfl] at p1 p2
  rw [p1, p2, p3]
  omega
theorem nI_and (a b : Nat) : nI a &&& nI b = nI (Nat.land a b) := by
  apply Int32.toBitVec_inj.mp
  rw [Int32.toBitVec_and]
  show BitVec.ofNat 32 a &&& BitVec.ofNat 32 b = BitVec.ofNat 32 (a &&& b)
  apply BitVec.eq_of_getLsbD_eq
  intro i hi
  simp [hi]
theorem land_le (a b : Nat) : Nat.land a b ≤ a := Nat.and_le_left
theorem land_le2 (a b : Nat) : Nat.land a b ≤ b := Nat.and_le_right
theorem jbc_nI {v : Nat} (h : v < 131072) : jbc (nI v) = nI (jn v) := by
  have b1 : jn1 v ≤ v := Nat.sub_le _ _
  have e1 : jb1 (nI v) = nI (jn1 v) := by
    unfold jb1 jn1
    rw [pk_ushrN (n := v) (by omega) 1 1 (by decide), show (1431655765 : Int32) = nI 1431655765 from rfl, nI_and, pk_sub (by have := land_le (v / 2 ^ 1) 1431655765; omega)]
  have b2 : jn2 (jn1 v) ≤ 2 * v := by
    unfold jn2
    have h1 := land_le (jn1 v) 858993459
    have h2 := land_le (jn1 v / 4) 858993459
    omega
  have e2 : jb2 (nI (jn1 v)) = nI (jn2 (jn1 v)) := by
    unfold jb2 jn2
    rw [pk_ushrN (n := jn1 v) (by omega) 2 2 (by decide), show (858993459 : Int32) = nI 858993459 from rfl, nI_and, nI_and, nI_add]
  have b3 : jn3 (jn2 (jn1 v)) ≤ 3 * v := by
    unfold jn3
    have h1 := land_le (jn2 (jn1 v) + jn2 (jn1 v) / 16) 252645135
    omega
  have e3 : jb3 (nI (jn2 (jn1 v))) = nI (jn3 (jn2 (jn1 v))) := by
    unfold jb3 jn3
    rw [pk_ushrN (n := jn2 (jn1 v)) (by omega) 4 4 (by decide), show (252645135 : Int32) = nI 252645135 from rfl, nI_add, nI_and]
  have b4 : jn4 (jn3 (jn2 (jn1 v))) ≤ 4 * v := by unfold jn4; omega
  have e4 : jb4 (nI (jn3 (jn2 (jn1 v)))) = nI (jn4 (jn3 (jn2 (jn1 v)))) := by
    unfold jb4 jn4
    rw [pk_ushrN (n := jn3 (jn2 (jn1 v))) (by omega) 8 8 (by decide), nI_add]
  have e5 : jb5 (nI (jn4 (jn3 (jn2 (jn1 v))))) = nI (jn5 (jn4 (jn3 (jn2 (jn1 v))))) := by
    unfold jb5 jn5
    rw [pk_ushrN (n := jn4 (jn3 (jn2 (jn1 v)))) (by omega) 16 16 (by decide), nI_add]
  unfold jbc jn
  rw [e1, e2, e3, e4, e5, show (63 : Int32) = nI 63 from rfl, nI_and]
section
variable {d : Nat} {k : Int32 → hG → hE → Prop} {X : Nat → hG → hE → Prop} {g : hG} {e : hE}
theorem c_bitsOf {v : Nat} (hv : v < 131072) (H : k (nI (jn v)) g e) : hci (d + 1) 219 [.int (nI v)] g e k X := by
  refine zh_X8_bitsOf ?_
  have : ∀ (m v : Nat) (x : Int32), v < 131072 → pnk 17 v = m → k (x + nI m) g e → hwi d zm_X8_bitsOf k X 4 [(1, .int x), (2, .int (nI v))] g e := by
    intro m
    induction m with
    | zero =>
      intro v x hv hm H
      by_cases h0 : v = 0
      · subst h0
        refine zh_X8_bitsOf_4 (zbr_t rfl ?_)
        rw [show x + nI 0 = x from Int32.add_zero x] at H
        exact H
      · have := pnk_less 17 v (by omega) (by omega)
        omega
    | succ m ih =>
      intro v x hv hm H
      have h0 : ¬ v = 0 := by
        rintro rfl
        rw [pnk_0] at hm
        omega
      have e1 : nI v - 1 = nI (v - 1) := by rw [show nI v = nI (v - 1 + 1) by rw [Nat.sub_add_cancel (by omega)]]; exact nI_pred _
      refine zh_X8_bitsOf_4 (zbr_f (nI_ne0 (by omega) (by omega)) ?_)
      rw [e1, nI_and]
      have hl := land_le v (v - 1)
      have := pnk_less 17 v (by omega) (by omega)
      refine ih _ _ (by omega) (by omega) ?_
      rw [show x + 1 + nI m = x + nI (m + 1) by rw [nI_succ, Int32.add_assoc, Int32.add_comm 1]]
      exact H
  refine this (pnk 17 v) v 0 hv rfl ?_
  rw [← jn_pn hv, Int32.zero_add]
  exact H
end
