def zmp (x : Int32) : Bool := decide (0 < x) && decide (x < 9)
def zpinch (z : cZ) (t : Int32) (p : Nat) : cZ := if zmp (zgrip z t p) then zgput z t p (zgrip z t p + 1) else z
def zweak1 (z : cZ) (t : Int32) (p : Nat) : cZ := if zgrip z t p ≤ 0 then z else zgput z t p (zgrip z t p - 1)
def zweaken (z : cZ) (t : Int32) (p : Nat) : cZ := if zhold (zweak1 z t p) p = 0 then zopen (zweak1 z t p) p else zweak1 z t p
def zwearL (z : cZ) (p : Nat) (v : Int32) : cZ := zgput z 0 p (imx 0 (gr z.2.2.1 p - v))
def zwear (z : cZ) (p : Nat) (v : Int32) : cZ := zgput (zwearL z p v) 1 p (imx 0 (gr (zwearL z p v).2.2.2.1 p - v))
def zlackL (z : cZ) (p : Nat) : cZ := if gr z.2.2.1 p = 0 then zgput z 0 p 9 else z
def zlack (z : cZ) (p : Nat) : cZ := if gr (zlackL z p).2.2.2.1 p = 0 then zgput (zlackL z p) 1 p 9 else zlackL z p
def zempty (z : cZ) (c : Int32) : cZ := (0, c, 0, 0, 0, 0, 0)
/-- the longest run so far, the run that ends here -/
def zlr (C : Int32) : Nat → Int32 × Int32
  | 0 => (0, 0)
  | p + 1 => (imx (zlr C p).1 (if bt C p then (zlr C p).2 + 1 else 0), if bt C p then (zlr C p).2 + 1 else 0)
theorem zlr_t {C : Int32} {p : Nat} (h : bt C p = true) : (zlr C (p + 1)).2 = (zlr C p).2 + 1 := if_pos h
theorem zlr_f {C : Int32} {p : Nat} (h : bt C p = false) : (zlr C (p + 1)).2 = 0 := if_neg (by rw [h]; decide)
def zlw (C L : Int32) (n : Nat) : Nat → Int32
  | 0 => -1
  | j + 1 => if (zlr C (n - (j + 1) + 1)).2 ≤ 0 then zlw C L n j else if (zlr C (n - (j + 1) + 1)).2 = L then nI (n - (j + 1)) - (zlr C (n - (j + 1) + 1)).2 + 1 else zlw C L n j
def zwk (z : cZ) : Nat → Int32 × Int32
  | 0 => (-1, 10)
  | p + 1 => if bt z.2.2.2.2.1 p = true ∧ ¬ (zwk z p).2 ≤ zhold z p then (nI p, zhold z p) else zwk z p
def zhs (z : cZ) (a : Nat) : Nat → Int32
  | 0 => 0
  | j + 1 => zhs z a j + zhold z (a + j)
section
variable {d : Nat} {k : Int32 → hG → hE → Prop} {kv : hG → hE → Prop} {X : Nat → hG → hE → Prop} {g : hG} {e : hE} {a : Nat}
theorem c_makeEmpty (ha : hT a = some hZ) {c : Int32} (hc : c = 0 ∨ c = 1) (H : kv (zp g a (zempty (zg g a) c)) e) : hcv (d + 1) 107 [.ref a, .int c] g e kv X := by
  refine zh_X6_makeEmpty ha ⟨hc, ?_⟩
  rw [s6, s0, zp_zp, zg_zp, s1, zp_zp, zg_zp, s2, zp_zp, zg_zp, s3, zp_zp, zg_zp, s4, zp_zp, zg_zp, s5, zp_zp, zg_zp]
  exact H
theorem c_makeSize (ha : hT a = some hZ) {n : Int32} (H : kv (zp g a (n, (zg g a).2)) e) : hcv (d + 1) 108 [.ref a, .int n] g e kv X := by
  refine zh_X6_makeSize ha ?_
  rw [s0]
  exact H
theorem c_copyOf {b : Nat} (ha : hT a = some hZ) (hb : hT b = some hZ) (hne : ¬ b = a) (hc : (zg g b).2.1 = 0 ∨ (zg g b).2.1 = 1) (H : kv (zp g a (zg g b)) e) : hcv (d + 1) 109 [.ref a, .ref b] g e kv X := by
  refine zh_X6_copyOf ha hb ?_
  simp only [s0, s1, s2, s3, s4, s5, s6, zp_zp, zg_zp, zp1 _ _ _ hne, zp2 _ _ _ hne]
  refine ⟨hc, ?_⟩
  rintro _ rfl
  simp only [s0, s1, s2, s3, s4, s5, s6, zp_zp, zg_zp, zp1 _ _ _ hne, zp2 _ _ _ hne]
  rintro _ rfl
  simp only [s0, s1, s2, s3, s4, s5, s6, zp_zp, zg_zp, zp1 _ _ _ hne, zp2 _ _ _ hne]
  exact H
theorem c_mayPinch (ha : hT a = some hZ) {t : Int32} {p : Nat} (H : k (bI (zmp (zgrip (zg g a) t p))) g e) : hci (d + 2) 129 [.ref a, .int t, .int (nI p)] g e k X := by
  refine zh_X6_mayPinch ha (c_grip ha ⟨fun c => ?_, fun c => c_grip ha ⟨fun c2 => ?_, fun c2 => ?_⟩⟩)
  · rw [show zmp (zgrip (zg g a) t p) = false by unfold zmp; rw [decide_eq_false (Int32.not_lt.mpr c)]; rfl] at H; exact H
  · rw [show zmp (zgrip (zg g a) t p) = false by unfold zmp; rw [decide_eq_false (p := zgrip (zg g a) t p < 9) (Int32.not_lt.mpr c2), Bool.and_false]] at H; exact H
  · rw [show zmp (zgrip (zg g a) t p) = true by unfold zmp; rw [decide_eq_true (Int32.not_le.mp c), decide_eq_true (Int32.not_le.mp c2)]; rfl] at H; exact H
theorem c_pinchTooth (ha : hT a = some hZ) {t : Int32} {p : Nat} (H : kv (zp g a (zpinch (zg g a) t p)) e) : hcv (d + 3) 130 [.ref a, .int t, .int (nI p)] g e kv X := by
  refine zh_X6_pinchTooth ha (c_mayPinch ha ?_)
  unfold zpinch at H
  cases q : zmp (zgrip (zg g a) t p) with
  | true =>
    rw [q] at H
    exact zbr_f (by decide) (c_grip ha (c_putGrip ha H))
  | false =>
    rw [q] at H
    refine zbr_t rfl ?_
    rw [show (if false = true then zgput (zg g a) t p (zgrip (zg g a) t p + 1) else zg g a) = zg g a from rfl, zp_zg] at H
    exact H
theorem c_weakenTooth (ha : hT a = some hZ) {t : Int32} {p : Nat} (H : kv (zp g a (zweaken (zg g a) t p)) e) : hcv (d + 3) 131 [.ref a, .int t, .int (nI p)] g e kv X := by
  refine zh_X6_weakenTooth ha (c_grip ha ?_)
  unfold zweaken zweak1 at H
  refine ⟨fun c => ?_, fun c => ?_⟩
  · rw [if_pos c] at H
    refine c_hold ha ⟨fun c2 => ?_, fun c2 => ?_⟩
    · rw [if_pos c2] at H
      exact c_openAt ha H
    · rw [if_neg c2, zp_zg] at H
      exact H
  · rw [if_neg c] at H
    refine c_grip ha (c_putGrip ha (c_hold ha ?_))
    rw [zg_zp]
    refine ⟨fun c2 => ?_, fun c2 => ?_⟩
    · rw [if_pos c2] at H
      refine c_openAt ha ?_
      rw [zg_zp, zp_zp]
      exact H
    · rw [if_neg c2] at H
      exact H
theorem c_wearAt (ha : hT a = some hZ) {v : Int32} {p : Nat} (H : kv (zp g a (zwear (zg g a) p v)) e) : hcv (d + 2) 132 [.ref a, .int (nI p), .int v] g e kv X := by
  refine zh_X6_wearAt ha (c_gripL ha (c_max (c_putGrip ha (c_gripR ha (c_max (c_putGrip ha ?_))))))
  rw [zp_zp, zg_zp]
  exact H
theorem c_setLacking (ha : hT a = some hZ) {p : Nat} (H : kv (zp g a (zlack (zg g a) p)) e) : hcv (d + 2) 133 [.ref a, .int (nI p)] g e kv X := by
  refine zh_X6_setLacking ha (c_gripL ha ?_)
  unfold zlack zlackL at H
  refine ⟨fun c => ?_, fun c => ?_⟩
  · rw [if_pos c] at H
    refine c_putGrip ha (c_gripR ha ?_)
    rw [zg_zp]
    refine ⟨fun c2 => ?_, fun c2 => ?_⟩
    · rw [if_pos c2] at H
      refine c_putGrip ha ?_
      rw [zg_zp, zp_zp]
      exact H
    · rw [if_neg c2] at H
      exact H
  · rw [if_neg c] at H
    refine c_gripR ha ⟨fun c2 => ?_, fun c2 => ?_⟩
    · rw [if_pos c2] at H
      exact c_putGrip ha H
    · rw [if_neg c2, zp_zg] at H
      exact H
theorem c_runs (ha : hT a = some hZ) (H : k (jbc ((zg g a).2.2.2.2.1 &&& (((zg g a).2.2.2.2.1 <<< ((1 : Int32) &&& 31)) ^^^ (-1)))) g e) : hci (d + 2) 135 [.ref a] g e k X := zh_X6_runs ha (c_bitCount H)
theorem c_longestRun (ha : hT a = some hZ) {n : Nat} (hn : (zg g a).1 = nI n) (h16 : n ≤ 16) (H : k (zlr (zg g a).2.2.2.2.1 n).1 g e) : hci (d + 2) 136 [.ref a] g e k X := by
  refine zh_X6_longestRun ha ?_
  refine hdown (W := fun p => hwi (d + 1) zm_X6_longestRun k X 6 [(0, .ref a), (1, .int (zlr (zg g a).2.2.2.2.1 p).1), (2, .int (zlr (zg g a).2.2.2.2.1 p).2), (3, .int (nI p))] g e) (n := n) ?_ ?_ 0 (Nat.zero_le _)
  · exact zh_X6_longestRun_6 ha (zbr_t (by show (zg g a).1 ≤ nI n; rw [hn]; exact nI_le (Nat.le_refl _) (by omega)) H)
  · intro p hp W
    rw [nI_succ] at W
    refine zh_X6_longestRun_6 ha (zbr_f (by show ¬ (zg g a).1 ≤ nI p; rw [hn]; exact nI_ge hp (by omega)) (c_isClosed ha (by omega) ?_))
    unfold zlr at W
    cases q : bt (zg g a).2.2.2.2.1 p with
    | true => rw [q] at W; exact zbr_f (by decide) (c_max W)
    | false => rw [q] at W; exact zbr_t rfl (c_max W)
theorem c_lowest (ha : hT a = some hZ) {n : Nat} (hn : (zg g a).1 = nI n) (h16 : n ≤ 16) (H : k (zlw (zg g a).2.2.2.2.1 (zlr (zg g a).2.2.2.2.1 n).1 n n) g e) : hci (d + 3) 137 [.ref a] g e k X := by
  refine zh_X6_lowestOfLongest ha (c_longestRun ha hn h16 ?_)
  generalize (zlr (zg g a).2.2.2.2.1 n).1 = L at H ⊢
  have : ∀ j, j ≤ n → k (zlw (zg g a).2.2.2.2.1 L n j) g e → hwi (d + 2) zm_X6_lowestOfLongest k X 9 [(0, .ref a), (1, .int L), (2, .int (zlr (zg g a).2.2.2.2.1 (n - j)).2), (3, .int (nI (n - j)))] g e := by
    intro j
    induction j with
    | zero =>
      intro _ H
      exact zh_X6_lowestOfLongest_9 ha (zbr_t (by show (zg g a).1 ≤ _; rw [hn]; exact nI_le (by omega) (by omega)) H)
    | succ j ih =>
      intro hj H
      have ih := ih (by omega)
      rw [show n - j = n - (j + 1) + 1 by omega, nI_succ] at ih
      refine zh_X6_lowestOfLongest_9 ha (zbr_f (by show ¬ (zg g a).1 ≤ _; rw [hn]; exact nI_ge (by omega) (by omega)) (c_isClosed ha (by omega) ?_))
      unfold zlw at H
      cases q : bt (zg g a).2.2.2.2.1 (n - (j + 1)) with
      | true =>
        rw [zlr_t q] at ih H
        refine zbr_f (by decide) ⟨fun c => ?_, fun c => ⟨fun c2 => ?_, fun c2 => ?_⟩⟩
        · exact ih (by rw [if_pos c] at H; exact H)
        · rw [if_neg c, if_pos c2] at H; exact H
        · exact ih (by rw [if_neg c, if_neg c2] at H; exact H)
      | false =>
        rw [zlr_f q] at ih H
        exact zbr_t rfl (zbr_t (by decide) (ih (by rw [if_pos (by decide)] at H; exact H)))
  have := this n (Nat.le_refl _) H
  rw [Nat.sub_self] at this
  exact this
theorem c_weakest (ha : hT a = some hZ) {n : Nat} (hn : (zg g a).1 = nI n) (h16 : n ≤ 16) (H : k (zwk (zg g a) n).1 g e) : hci (d + 3) 138 [.ref a] g e k X := by
  refine zh_X6_weakest ha ?_
  refine hdown (W := fun p => hwi (d + 2) zm_X6_weakest k X 7 [(0, .ref a), (1, .int (zwk (zg g a) p).1), (2, .int (zwk (zg g a) p).2), (3, .int (nI p))] g e) (n := n) ?_ ?_ 0 (Nat.zero_le _)
  · exact zh_X6_weakest_7 ha (zbr_t (by show (zg g a).1 ≤ nI n; rw [hn]; exact nI_le (Nat.le_refl _) (by omega)) H)
  · intro p hp W
    rw [nI_succ] at W
    refine zh_X6_weakest_7 ha (zbr_f (by show ¬ (zg g a).1 ≤ nI p; rw [hn]; exact nI_ge hp (by omega)) (c_isClosed ha (by omega) ?_))
    unfold zwk at W
    cases q : bt (zg g a).2.2.2.2.1 p with
    | false => rw [if_neg (by rw [q]; intro z; cases z.1)] at W; exact zbr_t rfl W
    | true =>
      refine zbr_f (by decide) (c_hold ha ⟨fun c => ?_, fun c => c_hold ha ?_⟩)
      · rw [if_neg (fun z => z.2 c)] at W; exact W
      · rw [if_pos ⟨q, c⟩] at W; exact W
theorem c_holdsBetween (ha : hT a = some hZ) {b c : Nat} (hbc : b ≤ c) (hc : c ≤ 16) (H : k (zhs (zg g a) b (c - b)) g e) : hci (d + 3) 122 [.ref a, .int (nI b), .int (nI c)] g e k X := by
  refine zh_X6_holdsBetween ha ?_
  refine hdown (W := fun j => hwi (d + 2) zm_X6_holdsBetween k X 5 [(0, .ref a), (2, .int (nI c)), (3, .int (zhs (zg g a) b j)), (4, .int (nI (b + j)))] g e) (n := c - b) ?_ ?_ 0 (Nat.zero_le _)
  · exact zh_X6_holdsBetween_5 ha (zbr_t (nI_le (by omega) (by omega)) H)
  · intro j hj W
    rw [show b + (j + 1) = b + j + 1 by omega, nI_succ] at W
    exact zh_X6_holdsBetween_5 ha (zbr_f (nI_ge (by omega) (by omega)) (c_hold ha W))
end
