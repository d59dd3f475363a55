theorem zr0 (g : hG) (a : Nat) (z : cZ) : (zp g a z).1 a 0 = z.1 := by unfold zp; simp only [va_up_at]; rfl
theorem zr1 (g : hG) (a : Nat) (z : cZ) : (zp g a z).1 a 1 = z.2.1 := by unfold zp; simp only [va_up_at]; rfl
theorem zr2 (g : hG) (a : Nat) (z : cZ) : (zp g a z).2.1 a 2 = z.2.2.1 := by unfold zp; simp only [va_up_at]; rfl
theorem zr3 (g : hG) (a : Nat) (z : cZ) : (zp g a z).2.1 a 3 = z.2.2.2.1 := by unfold zp; simp only [va_up_at]; rfl
theorem zr4 (g : hG) (a : Nat) (z : cZ) : (zp g a z).1 a 4 = z.2.2.2.2.1 := by unfold zp; simp only [va_up_at]; rfl
theorem zr5 (g : hG) (a : Nat) (z : cZ) : (zp g a z).1 a 5 = z.2.2.2.2.2.1 := by unfold zp; simp only [va_up_at]; rfl
theorem zr6 (g : hG) (a : Nat) (z : cZ) : (zp g a z).1 a 6 = z.2.2.2.2.2.2 := by unfold zp; simp only [va_up_at]; rfl
def bI (b : Bool) : Int32 := if b then 1 else 0
theorem bI_or (b : Bool) : bI b = 0 ∨ bI b = 1 := by cases b <;> decide
theorem lg0 (x : Int64) : lg_cmp x 0 = 0 ↔ x = 0 := by
  unfold lg_cmp
  by_cases h1 : x > 0
  · rw [if_pos h1]
    refine ⟨fun h => absurd h (by decide), fun h => ?_⟩
    subst h; exact absurd h1 (by decide)
  · rw [if_neg h1]
    by_cases h2 : x = 0
    · rw [if_pos h2]; exact ⟨fun _ => h2, fun _ => rfl⟩
    · rw [if_neg h2]; exact ⟨fun h => absurd h (by decide), fun h => absurd h h2⟩
theorem lgx (x y : Int64) : lg_cmp x y = 0 ↔ x = y := by
  unfold lg_cmp
  by_cases h1 : x > y
  · rw [if_pos h1]
    refine ⟨fun h => absurd h (by decide), fun h => ?_⟩
    subst h; exact absurd h1 Int64.lt_irrefl
  · rw [if_neg h1]
    by_cases h2 : x = y
    · rw [if_pos h2]; exact ⟨fun _ => h2, fun _ => rfl⟩
    · rw [if_neg h2]; exact ⟨fun h => absurd h (by decide), fun h => absurd h h2⟩
theorem a15 (y : Int64) : (y &&& 15 = 0) ↔ (y.toInt32 &&& 15 = 0) := by
  have e15 : ∀ j, j < 64 → (15 : Int64).toBitVec.getLsbD j = decide (j < 4) := by decide +kernel
  rw [← Int64.toBitVec_inj, ← Int32.toBitVec_inj]
  rw [Int64.toBitVec_and, Int32.toBitVec_and, Int64.toBitVec_toInt32]
  constructor
  · intro h
    apply BitVec.eq_of_getLsbD_eq
    intro i hi
    have := congrArg (fun x => BitVec.getLsbD x i) h
    simp only [BitVec.getLsbD_and] at this ⊢
    rw [e15 i (by omega)] at this
    rw [m15 i hi, BitVec.getLsbD_signExtend]
    simp only [hi, show i < 64 by omega, decide_true, if_true, Bool.true_and]
    exact this
  · intro h
    apply BitVec.eq_of_getLsbD_eq
    intro i hi
    simp only [BitVec.getLsbD_and]
    rw [e15 i hi]
    by_cases h4 : i < 4
    · have := congrArg (fun x => BitVec.getLsbD x i) h
      simp only [BitVec.getLsbD_and] at this
      rw [m15 i (by omega), BitVec.getLsbD_signExtend] at this
      simp only [show i < 32 by omega, show i < 64 by omega, decide_true, if_true, Bool.true_and] at this
      exact this
    · simp [h4]
theorem gr_long (L : Int64) (p : Nat) : lg_cmp (((L : Int64).toUInt64 >>> ((4 * nI p : Int32).toInt64.toUInt64 &&& Int64.toUInt64 63)).toInt64 &&& 15) 0 = 0 ↔ gr L p = 0 := by
  rw [lg0, a15]
  rfl
/-- the hold of a place; which places hold, as far as p -/
def zhold (z : cZ) (p : Nat) : Int32 := imn (gr z.2.2.1 p) (gr z.2.2.2.1 p)
def zhb (z : cZ) : Nat → Int32
  | 0 => 0
  | p + 1 => if gr z.2.2.1 p = 0 ∨ gr z.2.2.2.1 p = 0 then zhb z p else zhb z p ||| (1 <<< (nI p &&& 31))
def zslide (z : cZ) (n : Nat) (to : Int32) : cZ := (z.1, z.2.1, z.2.2.1, z.2.2.2.1, zhb z n &&& ((1 <<< (to &&& 31)) - 1), to, 0)
def zgput (z : cZ) (t : Int32) (p : Nat) (v : Int32) : cZ := if t = 0 then (z.1, z.2.1, gp z.2.2.1 p v, z.2.2.2.1, z.2.2.2.2.1, z.2.2.2.2.2.1, 0) else (z.1, z.2.1, z.2.2.1, gp z.2.2.2.1 p v, z.2.2.2.2.1, z.2.2.2.2.2.1, 0)
def zgrip (z : cZ) (t : Int32) (p : Nat) : Int32 := if t = 0 then gr z.2.2.1 p else gr z.2.2.2.1 p
def zopen (z : cZ) (p : Nat) : cZ := (z.1, z.2.1, z.2.2.1, z.2.2.2.1, z.2.2.2.2.1 &&& ((1 <<< (nI p &&& 31)) ^^^ (-1)), z.2.2.2.2.2.1, 0)
def zsumG (z : cZ) : Nat → Int32
  | 0 => 0
  | p + 1 => zsumG z p + (gr z.2.2.1 p + gr z.2.2.2.1 p)
def zbeside (z : cZ) (n p : Nat) : Int32 := (if p = 0 then 0 else if bt z.2.2.2.2.1 (p - 1) then 0 else 1) + (if n ≤ p + 1 then 0 else if bt z.2.2.2.2.1 (p + 1) then 0 else 1)
section
variable {d : Nat} {k : Int32 → hG → hE → Prop} {kv : hG → hE → Prop} {X : Nat → hG → hE → Prop} {g : hG} {e : hE} {a : Nat}
theorem c_size (ha : hT a = some hZ) (H : k (zg g a).1 g e) : hci (d + 1) 112 [.ref a] g e k X := zh_X6_size ha H
theorem c_isCoil (ha : hT a = some hZ) (hb : (zg g a).2.1 = 0 ∨ (zg g a).2.1 = 1) (H : k (zg g a).2.1 g e) : hci (d + 1) 113 [.ref a] g e k X := zh_X6_isCoil ha ⟨hb, H⟩
theorem c_sliderHeight (ha : hT a = some hZ) (H : k (zg g a).2.2.2.2.2.1 g e) : hci (d + 1) 114 [.ref a] g e k X := zh_X6_sliderHeight ha H
theorem c_closedBits (ha : hT a = some hZ) (H : k (zg g a).2.2.2.2.1 g e) : hci (d + 1) 115 [.ref a] g e k X := zh_X6_closedBits ha H
theorem c_closedCount (ha : hT a = some hZ) (H : k (jbc (zg g a).2.2.2.2.1) g e) : hci (d + 2) 116 [.ref a] g e k X := zh_X6_closedCount ha (c_bitCount H)
theorem c_isClosed (ha : hT a = some hZ) {p : Nat} (hp : p < 32) (H : k (bI (bt (zg g a).2.2.2.2.1 p)) g e) : hci (d + 1) 117 [.ref a, .int (nI p)] g e k X := by
  refine zh_X6_isClosed ha ⟨fun c => ?_, fun c => ?_⟩
  · rw [show bt (zg g a).2.2.2.2.1 p = false from (bt_shr0 hp).mp c] at H
    exact H
  · have : bt (zg g a).2.2.2.2.1 p = true := by
      cases q : bt (zg g a).2.2.2.2.1 p with
      | true => rfl
      | false => exact absurd ((bt_shr0 hp).mpr q) c
    rw [this] at H
    exact H
theorem c_grip (ha : hT a = some hZ) {t : Int32} {p : Nat} (H : k (zgrip (zg g a) t p) g e) : hci (d + 1) 118 [.ref a, .int t, .int (nI p)] g e k X := zh_X6_grip ha (zbr_ite (P := fun x => k x g e) H)
theorem c_gripL (ha : hT a = some hZ) {p : Nat} (H : k (gr (zg g a).2.2.1 p) g e) : hci (d + 1) 118 [.ref a, .int 0, .int (nI p)] g e k X := zh_X6_grip ha (zbr_t rfl H)
theorem c_gripR (ha : hT a = some hZ) {p : Nat} (H : k (gr (zg g a).2.2.2.1 p) g e) : hci (d + 1) 118 [.ref a, .int 1, .int (nI p)] g e k X := zh_X6_grip ha (zbr_f (by decide) H)
theorem c_putGrip (ha : hT a = some hZ) {t v : Int32} {p : Nat} (H : kv (zp g a (zgput (zg g a) t p v)) e) : hcv (d + 1) 119 [.ref a, .int t, .int (nI p), .int v] g e kv X := by
  refine zh_X6_putGrip ha ?_
  refine ⟨fun c => ?_, fun c => ?_⟩
  · unfold zgput at H
    rw [if_pos c] at H
    rw [s6, zr2, s2, zp_zp, zg_zp]
    rintro _ rfl
    exact H
  · unfold zgput at H
    rw [if_neg c] at H
    rw [s6, zr3, s3, zp_zp, zg_zp]
    rintro _ rfl
    exact H
theorem c_hold (ha : hT a = some hZ) {p : Nat} (H : k (zhold (zg g a) p) g e) : hci (d + 2) 120 [.ref a, .int (nI p)] g e k X := zh_X6_hold ha (c_gripL ha (c_gripR ha (c_min H)))
theorem c_holding (ha : hT a = some hZ) {n : Nat} (hn : (zg g a).1 = nI n) (h16 : n ≤ 16) (H : k (zhb (zg g a) n) g e) : hci (d + 1) 121 [.ref a] g e k X := by
  refine zh_X6_holding ha ?_
  refine hdown (W := fun p => hwi d zm_X6_holding k X 4 [(0, .ref a), (1, .int (zhb (zg g a) p)), (2, .int (nI p))] g e) (n := n) ?_ ?_ 0 (Nat.zero_le _)
  · exact zh_X6_holding_4 ha (zbr_t (by show (zg g a).1 ≤ nI n; rw [hn]; exact nI_le (Nat.le_refl _) (by omega)) H)
  · intro p hp W
    rw [nI_succ] at W
    refine zh_X6_holding_4 ha (zbr_f (by show ¬ (zg g a).1 ≤ nI p; rw [hn]; exact nI_ge hp (by omega)) ?_)
    refine ⟨fun c => ?_, fun c => ⟨fun c2 => ?_, fun c2 => ?_⟩⟩
    · have c := (gr_long _ p).mp c
      rw [show zhb (zg g a) (p + 1) = zhb (zg g a) p from if_pos (Or.inl c)] at W
      exact W
    · have c2 := (gr_long _ p).mp c2
      rw [show zhb (zg g a) (p + 1) = zhb (zg g a) p from if_pos (Or.inr c2)] at W
      exact W
    · rw [show zhb (zg g a) (p + 1) = zhb (zg g a) p ||| (1 <<< (nI p &&& 31)) from if_neg (fun z => z.elim (fun z => c ((gr_long _ p).mpr z)) (fun z => c2 ((gr_long _ p).mpr z)))] at W
      exact W
theorem c_gripSum (ha : hT a = some hZ) {n : Nat} (hn : (zg g a).1 = nI n) (h16 : n ≤ 16) (H : k (zsumG (zg g a) n) g e) : hci (d + 2) 123 [.ref a] g e k X := by
  refine zh_X6_gripSum ha ?_
  refine hdown (W := fun p => hwi (d + 1) zm_X6_gripSum k X 4 [(0, .ref a), (1, .int (zsumG (zg g a) p)), (2, .int (nI p))] g e) (n := n) ?_ ?_ 0 (Nat.zero_le _)
  · exact zh_X6_gripSum_4 ha (zbr_t (by show (zg g a).1 ≤ nI n; rw [hn]; exact nI_le (Nat.le_refl _) (by omega)) H)
  · intro p hp W
    rw [nI_succ] at W
    exact zh_X6_gripSum_4 ha (zbr_f (by show ¬ (zg g a).1 ≤ nI p; rw [hn]; exact nI_ge hp (by omega)) (c_gripL ha (c_gripR ha W)))
theorem c_slideTo (ha : hT a = some hZ) {n : Nat} (hn : (zg g a).1 = nI n) (h16 : n ≤ 16) {to : Int32} (H : kv (zp g a (zslide (zg g a) n to)) e) : hcv (d + 2) 126 [.ref a, .int to] g e kv X := by
  refine zh_X6_slideTo ha ?_
  rw [s6, s5, zp_zp, zg_zp]
  refine c_holding ha (by rw [zg_zp]; exact hn) h16 ?_
  rw [s4, zp_zp, zg_zp]
  have : ∀ (z w : cZ), w.2.2.1 = z.2.2.1 → w.2.2.2.1 = z.2.2.2.1 → ∀ p, zhb w p = zhb z p := by
    intro z w h1 h2 p
    induction p with
    | zero => rfl
    | succ p ih => unfold zhb; rw [h1, h2, ih]
  rw [this (zg g a) _ (by rfl) (by rfl)]
  exact H
theorem c_slideToTop (ha : hT a = some hZ) {n : Nat} (hn : (zg g a).1 = nI n) (h16 : n ≤ 16) (H : kv (zp g a (zslide (zg g a) n (nI n))) e) : hcv (d + 3) 127 [.ref a] g e kv X := by
  refine zh_X6_slideToTop ha (c_slideTo ha hn h16 ?_)
  rw [show g.1 a 0 = nI n from hn]
  exact H
theorem c_openAt (ha : hT a = some hZ) {p : Nat} (H : kv (zp g a (zopen (zg g a) p)) e) : hcv (d + 1) 128 [.ref a, .int (nI p)] g e kv X := by
  refine zh_X6_openAt ha ?_
  rw [s6, zr4, s4, zp_zp, zg_zp]
  exact H
theorem c_openBeside (ha : hT a = some hZ) {n p : Nat} (hn : (zg g a).1 = nI n) (h16 : n ≤ 16) (hp : p < n) (H : k (zbeside (zg g a) n p) g e) : hci (d + 2) 125 [.ref a, .int (nI p)] g e k X := by
  have step : ∀ x : Int32, k (x + (if n ≤ p + 1 then 0 else if bt (zg g a).2.2.2.2.1 (p + 1) then 0 else 1)) g e → hwi (d + 1) zm_X6_openBeside k X 19 [(0, .ref a), (1, .int (nI p)), (2, .int x)] g e := by
    intro x hx
    refine zh_X6_openBeside_19 ha ?_
    rw [nI_1]
    by_cases c : n ≤ p + 1
    · rw [if_pos c] at hx
      refine zbr_t (by show (zg g a).1 ≤ _; rw [hn]; exact nI_le c (by omega)) ?_
      rw [show x + 0 = x from Int32.add_zero x] at hx
      exact hx
    · rw [if_neg c] at hx
      refine zbr_f (by show ¬ (zg g a).1 ≤ _; rw [hn]; exact nI_ge (by omega) (by omega)) (c_isClosed ha (by omega) ?_)
      cases q : bt (zg g a).2.2.2.2.1 (p + 1) with
      | true => rw [q] at hx; exact zbr_f (by decide) (by rw [show x + (if true = true then (0 : Int32) else 1) = x from Int32.add_zero x] at hx; exact hx)
      | false => rw [q] at hx; exact zbr_t rfl hx
  refine zh_X6_openBeside ha ?_
  unfold zbeside at H
  by_cases c : p = 0
  · subst c
    refine zbr_t (by decide) (step 0 ?_)
    exact H
  · rw [if_neg c] at H
    refine zbr_f (nI_nle (by omega) (by omega)) ?_
    rw [show nI p - 1 = nI (p - 1) by rw [show nI p = nI (p - 1 + 1) by rw [Nat.sub_add_cancel (by omega)]]; exact nI_pred _]
    refine c_isClosed ha (by omega) ?_
    cases q : bt (zg g a).2.2.2.2.1 (p - 1) with
    | true => rw [q] at H; exact zbr_f (by decide) (step 0 H)
    | false => rw [q] at H; exact zbr_t rfl (step _ H)
end
