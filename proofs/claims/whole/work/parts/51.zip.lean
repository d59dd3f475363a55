/-! JDK's own: contracts -/
theorem zbr_ite {α : Type} {c : Prop} {dc : Decidable c} {P : α → Prop} {a b : α} (H : P (@ite α c dc a b)) : zbr c (P a) (P b) := by
  refine ⟨fun h => ?_, fun h => ?_⟩
  · rw [if_pos h] at H; exact H
  · rw [if_neg h] at H; exact H
theorem zbr_t {c A B : Prop} (h : c) (H : A) : zbr c A B := ⟨fun _ => H, fun n => absurd h n⟩
theorem zbr_f {c A B : Prop} (h : ¬ c) (H : B) : zbr c A B := ⟨fun n => absurd n h, fun _ => H⟩
theorem zbr_i {c A B : Prop} (h1 : c → A) (h2 : ¬ c → B) : zbr c A B := ⟨h1, h2⟩
def imx (a b : Int32) : Int32 := if a < b then b else a
def imn (a b : Int32) : Int32 := if b < a then b else a
def iab (a : Int32) : Int32 := if 0 ≤ a then a else -a
def jb1 (x : Int32) : Int32 := x - (((x : Int32).toUInt32 >>> ((1 : Int32).toUInt32 &&& Int32.toUInt32 31)).toInt32 &&& 1431655765)
def jb2 (x : Int32) : Int32 := (x &&& 858993459) + (((x : Int32).toUInt32 >>> ((2 : Int32).toUInt32 &&& Int32.toUInt32 31)).toInt32 &&& 858993459)
def jb3 (x : Int32) : Int32 := (x + ((x : Int32).toUInt32 >>> ((4 : Int32).toUInt32 &&& Int32.toUInt32 31)).toInt32) &&& 252645135
def jb4 (x : Int32) : Int32 := x + ((x : Int32).toUInt32 >>> ((8 : Int32).toUInt32 &&& Int32.toUInt32 31)).toInt32
def jb5 (x : Int32) : Int32 := x + ((x : Int32).toUInt32 >>> ((16 : Int32).toUInt32 &&& Int32.toUInt32 31)).toInt32
def jbc (x : Int32) : Int32 := jb5 (jb4 (jb3 (jb2 (jb1 x)))) &&& 63
section
variable {d : Nat} {k : Int32 → hG → hE → Prop} {kv : hG → hE → Prop} {X : Nat → hG → hE → Prop} {g : hG} {e : hE}
theorem c_bitCount {x : Int32} (H : k (jbc x) g e) : hci (d + 1) 0 [.int x] g e k X := zh_J6_bitCount_0f7a4 H
theorem c_abs {x : Int32} (H : k (iab x) g e) : hci (d + 1) 1 [.int x] g e k X := zh_J9_abs_0f7a4 (zbr_ite (P := fun x => k x g e) H)
theorem c_max {x y : Int32} (H : k (imx x y) g e) : hci (d + 1) 2 [.int x, .int y] g e k X := zh_J9_max_7cf53 (zbr_ite (P := fun x => k x g e) H)
theorem c_min {x y : Int32} (H : k (imn x y) g e) : hci (d + 1) 3 [.int x, .int y] g e k X := zh_J9_min_7cf53 (zbr_ite (P := fun x => k x g e) H)
theorem c_length {a : Nat} (ha : a < 58 ∧ a % 2 = 0) (H : k (nI (htx (a / 2)).length) g e) : hci (d + 2) 4 [.ref a] g e k X := by
  refine zh_J0_length_8abf5 ha (zh_J0_coder_7d493 ha (zbr_f (by decide) ?_))
  rw [show (a + 1) / 2 = a / 2 by omega]
  have : ∀ x : Int32, x >>> ((0 : Int32) &&& 31) = x := by intro x; apply Int32.toBitVec_inj.mp; rw [Int32.toBitVec_shiftRight]; show BitVec.sshiftRight _ 0 = _; simp
  rw [this]
  exact H
theorem htx_lt : ∀ a, a < 29 → ∀ j, j < 10 → (htx a).getD j 0 < 128 := by decide +kernel
theorem htx_len : ∀ a, a < 29 → (htx a).length < 10 := by decide +kernel
theorem n255 : ∀ n, n < 128 → ((nI n &&& 255 : Int32).toUInt32 % 65536).toInt32 = nI n := by decide +kernel
theorem c_charAt {a j : Nat} (ha : a < 58 ∧ a % 2 = 0) (hj : j < (htx (a / 2)).length) (H : k (nI ((htx (a / 2)).getD j 0)) g e) : hci (d + 4) 5 [.ref a, .int (nI j)] g e k X := by
  have hl := htx_len (a / 2) (by omega)
  have hb := htx_lt (a / 2) (by omega) j (by omega)
  have ej : (nI j).toNatClampNeg = j := nI_clamp (by omega)
  refine zh_J0_charAt_5068e ha (zh_J0_isLatin1_aae02 ha (zbr_f (by decide) (zbr_t rfl (zbr_f (by decide) ?_))))
  refine zh_J1_charAt_3b067 (htxO ha) (zh_J0_checkIndex_df160 (zh_J3_checkIndex_8e157 ?_))
  rw [show (a + 1) / 2 = a / 2 by omega]
  refine zbr_f (nI_pos (by omega)) (zbr_t (nI_lt hj (by omega)) ⟨nI_in hj (by omega), ?_⟩)
  rw [ej, n255 _ hb]
  exact ⟨⟨_, by omega, rfl⟩, ⟨_, by omega, rfl⟩, H⟩
end
theorem hdown {W : Nat → Prop} {n : Nat} (h0 : W n) (hs : ∀ k, k < n → W (k + 1) → W k) : ∀ k, k ≤ n → W k := by
  intro k hk
  have : ∀ j, j ≤ n → W (n - j) := by
    intro j
    induction j with
    | zero => intro _; exact h0
    | succ j ih =>
      intro hj
      have := ih (by omega)
      refine hs (n - (j + 1)) (by omega) ?_
      rw [show n - (j + 1) + 1 = n - j by omega]
      exact this
  have := this (n - k) (by omega)
  rwa [show n - (n - k) = k by omega] at this
/-! a zip of the class: places, coil, left, right, closed, height, what is harmless -/
abbrev cZ : Type := Int32 × Int32 × Int64 × Int64 × Int32 × Int32 × Int32
def zg (g : hG) (a : Nat) : cZ := (g.1 a 0, g.1 a 1, g.2.1 a 2, g.2.1 a 3, g.1 a 4, g.1 a 5, g.1 a 6)
def zfI (z : cZ) (f : Nat → Int32) : Nat → Int32 := fun k => match k with
  | 0 => z.1
  | 1 => z.2.1
  | 4 => z.2.2.2.2.1
  | 5 => z.2.2.2.2.2.1
  | 6 => z.2.2.2.2.2.2
  | k => f k
def zfJ (z : cZ) (f : Nat → Int64) : Nat → Int64 := fun k => match k with
  | 2 => z.2.2.1
  | 3 => z.2.2.2.1
  | k => f k
/-- a zip's cell is z -/
def zp (g : hG) (a : Nat) (z : cZ) : hG := (va_up g.1 a (zfI z (g.1 a)), va_up g.2.1 a (zfJ z (g.2.1 a)), g.2.2)
theorem zp1 (g : hG) (a : Nat) (z : cZ) {b : Nat} (h : ¬ b = a) : (zp g a z).1 b = g.1 b := va_up_off _ _ h
theorem zp2 (g : hG) (a : Nat) (z : cZ) {b : Nat} (h : ¬ b = a) : (zp g a z).2.1 b = g.2.1 b := va_up_off _ _ h
theorem zp3 (g : hG) (a : Nat) (z : cZ) : (zp g a z).2.2 = g.2.2 := rfl
theorem zg_zp (g : hG) (a : Nat) (z : cZ) : zg (zp g a z) a = z := by
  unfold zg zp
  simp only [va_up_at]
  rfl
theorem zg_off (g : hG) {a b : Nat} (z : cZ) (h : ¬ b = a) : zg (zp g a z) b = zg g b := by
  unfold zg
  rw [zp1 g a z h, zp2 g a z h]
theorem va_up_up {α : Type} (f : Nat → α) (k : Nat) (v w : α) : va_up (va_up f k v) k w = va_up f k w := by
  funext j
  unfold va_up
  split <;> rfl
theorem va_up_id {α : Type} (f : Nat → α) (k : Nat) : va_up f k (f k) = f := by
  funext j
  unfold va_up
  split
  · rename_i h; rw [h]
  · rfl
theorem zfI_zfI (z w : cZ) (f : Nat → Int32) : zfI w (zfI z f) = zfI w f := by
  funext k
  unfold zfI
  split <;> first | rfl | (split <;> first | rfl | simp_all)
theorem zfJ_zfJ (z w : cZ) (f : Nat → Int64) : zfJ w (zfJ z f) = zfJ w f := by
  funext k
  unfold zfJ
  split <;> first | rfl | (split <;> first | rfl | simp_all)
theorem zp_zp (g : hG) (a : Nat) (z w : cZ) : zp (zp g a z) a w = zp g a w := by
  unfold zp
  simp only [va_up_at, va_up_up, zfI_zfI, zfJ_zfJ]
theorem zp_zg (g : hG) (a : Nat) : zp g a (zg g a) = g := by
  unfold zp
  have h1 : zfI (zg g a) (g.1 a) = g.1 a := by
    funext k
    unfold zfI zg
    split <;> rfl
  have h2 : zfJ (zg g a) (g.2.1 a) = g.2.1 a := by
    funext k
    unfold zfJ zg
    split <;> rfl
  rw [h1, h2, va_up_id, va_up_id]
theorem sI_zp {g : hG} {a k : Nat} {v : Int32} {z : cZ} (h1 : upd (g.1 a) k v = zfI z (g.1 a)) (h2 : zfJ z (g.2.1 a) = g.2.1 a) : sI g a k v = zp g a z := by
  unfold sI zp
  rw [h1, h2, va_up_id]
theorem sJ_zp {g : hG} {a k : Nat} {v : Int64} {z : cZ} (h1 : vp_updL (g.2.1 a) k v = zfJ z (g.2.1 a)) (h2 : zfI z (g.1 a) = g.1 a) : sJ g a k v = zp g a z := by
  unfold sJ zp
  rw [h1, h2, va_up_id]
theorem fI_t {f : Nat → Int32} {i : Nat} {v : Int32} {z : cZ} (h : ∀ k, upd f i v k = zfI z f k) : upd f i v = zfI z f := funext h
theorem s0 (g : hG) (a : Nat) (v : Int32) : sI g a 0 v = zp g a (v, (zg g a).2) := sI_zp (by funext k; unfold upd zfI zg; split <;> (try split) <;> simp_all) (by funext k; unfold zfJ zg; split <;> rfl)
theorem s1 (g : hG) (a : Nat) (v : Int32) : sI g a 1 v = zp g a ((zg g a).1, v, (zg g a).2.2) := sI_zp (by funext k; unfold upd zfI zg; split <;> (try split) <;> simp_all) (by funext k; unfold zfJ zg; split <;> rfl)
theorem s4 (g : hG) (a : Nat) (v : Int32) : sI g a 4 v = zp g a ((zg g a).1, (zg g a).2.1, (zg g a).2.2.1, (zg g a).2.2.2.1, v, (zg g a).2.2.2.2.2) := sI_zp (by funext k; unfold upd zfI zg; split <;> (try split) <;> simp_all) (by funext k; unfold zfJ zg; split <;> rfl)
theorem s5 (g : hG) (a : Nat) (v : Int32) : sI g a 5 v = zp g a ((zg g a).1, (zg g a).2.1, (zg g a).2.2.1, (zg g a).2.2.2.1, (zg g a).2.2.2.2.1, v, (zg g a).2.2.2.2.2.2) := sI_zp (by funext k; unfold upd zfI zg; split <;> (try split) <;> simp_all) (by funext k; unfold zfJ zg; split <;> rfl)
theorem s6 (g : hG) (a : Nat) (v : Int32) : sI g a 6 v = zp g a ((zg g a).1, (zg g a).2.1, (zg g a).2.2.1, (zg g a).2.2.2.1, (zg g a).2.2.2.2.1, (zg g a).2.2.2.2.2.1, v) := sI_zp (by funext k; unfold upd zfI zg; split <;> (try split) <;> simp_all) (by funext k; unfold zfJ zg; split <;> rfl)
theorem s2 (g : hG) (a : Nat) (v : Int64) : sJ g a 2 v = zp g a ((zg g a).1, (zg g a).2.1, v, (zg g a).2.2.2) := sJ_zp (by funext k; unfold vp_updL zfJ zg; split <;> (try split) <;> simp_all) (by funext k; unfold zfI zg; split <;> rfl)
theorem s3 (g : hG) (a : Nat) (v : Int64) : sJ g a 3 v = zp g a ((zg g a).1, (zg g a).2.1, (zg g a).2.2.1, v, (zg g a).2.2.2.2) := sJ_zp (by funext k; unfold vp_updL zfJ zg; split <;> (try split) <;> simp_all) (by funext k; unfold zfI zg; split <;> rfl)
