/-! questions: their answers (a number, or which throw), how both sides come to them -/
def iszb (n : Nat) (z : Int32) : Bool := decide (0 ≤ z) && decide (z < nI n)
def isrb (a b : Nat) (z : Int32) : Bool := decide (nI a ≤ z) && decide (z ≤ nI b)
theorem iszb_t {n i : Nat} (hn : n < 2 ^ 31) (h : i < n) : iszb n (nI i) = true := by
  unfold iszb
  rw [decide_eq_true (nI_pos' (by omega)), decide_eq_true (nI_lt h hn)]
  rfl
theorem iszb_f {n : Nat} (hn : n < 2 ^ 31) {z : Int32} (h : ¬ isz n z) : iszb n z = false := by
  cases q : iszb n z with
  | false => rfl
  | true =>
    unfold iszb at q
    rw [Bool.and_eq_true] at q
    have q1 := of_decide_eq_true q.1
    have q2 := of_decide_eq_true q.2
    rcases isz_or hn z with c | c
    · exact absurd c h
    · rcases c with c | c
      · exact absurd q1 (Int32.not_le.mpr c)
      · exact absurd q2 (Int32.not_lt.mpr c)
theorem isrb_t {a b i : Nat} (hb : b < 2 ^ 30) (h1 : a ≤ i) (h2 : i ≤ b) : isrb a b (nI i) = true := by
  unfold isrb
  rw [decide_eq_true (nI_le h1 (by omega)), decide_eq_true (nI_le h2 (by omega))]
  rfl
theorem isrb_f {a b : Nat} (ha : a < 2 ^ 30) (hb : b < 2 ^ 30) {z : Int32} (h : ¬ isr a b z) : isrb a b z = false := by
  cases q : isrb a b z with
  | false => rfl
  | true =>
    unfold isrb at q
    rw [Bool.and_eq_true] at q
    have q1 := of_decide_eq_true q.1
    have q2 := of_decide_eq_true q.2
    rcases isr_or ha hb z with c | c | c
    · exact absurd c h
    · exact absurd c (Int32.not_lt.mpr q1)
    · exact absurd q2 c.2
abbrev rs : Type := Int32 ⊕ Nat
/-- the class ends so -/
def oc (r : rs) (k : Int32 → hG → hE → Prop) (X : Nat → hG → hE → Prop) (g : hG) (e : hE) : Prop := match r with
  | .inl v => k v g e
  | .inr c => X c g (hth e)
/-- the model ends so: c says which number stands for a throw -/
def om (c : Nat → Int32) (r : rs) (v : Int32) (g : hG) : Prop := match r with
  | .inl u => v = u ∧ g.1 1046 4 = 0
  | .inr x => g.1 1046 4 = c x
def c12 : Nat → Int32
  | 0 => 2
  | _ => 1
def c01 : Nat → Int32 := fun _ => 1
theorem oc_l {r : rs} {k : Int32 → hG → hE → Prop} {X : Nat → hG → hE → Prop} {g : hG} {e : hE} {v : Int32} (h : oc r k X g e) (hr : r = .inl v) : k v g e := by subst hr; exact h
theorem oc_r {r : rs} {k : Int32 → hG → hE → Prop} {X : Nat → hG → hE → Prop} {g : hG} {e : hE} {c : Nat} (h : oc r k X g e) (hr : r = .inr c) : X c g (hth e) := by subst hr; exact h
theorem om_l {c : Nat → Int32} {r : rs} {v : Int32} {g : hG} (hr : r = .inl v) (h : g.1 1046 4 = 0) : om c r v g := by subst hr; exact ⟨rfl, h⟩
theorem om_r {c : Nat → Int32} {r : rs} {v : Int32} {g : hG} {x : Nat} (hr : r = .inr x) (h : g.1 1046 4 = c x) : om c r v g := by subst hr; exact h
/-- grips together -/
def ssum (s : sZ) : Nat → Int32
  | 0 => 0
  | p + 1 => ssum s p + (nI (s.2.2.1 p) + nI (s.2.2.2.1 p))
theorem zrel_sum {z : cZ} {s : sZ} (h : zrel z s) : ∀ p, p ≤ 16 → zsumG z p = ssum s p
  | 0, _ => rfl
  | p + 1, hp => by
    unfold zsumG ssum
    rw [zrel_sum h p (by omega), h.2.2.1 p (by omega), h.2.2.2.1 p (by omega)]
theorem s0_calm {pl wl : List tk} {st day : Int32} {s : sZ} (h : s.2.2.2.2.1 = 0) : sday pl wl st day s = (s, 0, -1, false) := sday_calm (fun q _ z => by
  have z := z.1
  rw [h, bt_zero] at z
  cases z)
theorem sgo_0 {pl wl : List tk} {sl : List Nat} {s : sZ} (h : s.2.2.2.2.1 = 0) : ∀ (n t : Nat), sgo pl wl sl n t s = s ∧ sbn pl wl sl n t s = 0
  | 0, _ => ⟨rfl, rfl⟩
  | n + 1, t => by
    have e := s0_calm (pl := pl) (wl := wl) (st := nI (sstr sl t)) (day := nI t) h
    unfold sgo sbn sd1
    rw [e]
    obtain ⟨a, b⟩ := sgo_0 h n (t + 1)
    exact ⟨a, by rw [b]; show jbc 0 + 0 = 0; decide⟩
theorem sok_C {s : sZ} (h : sok s) : ∃ v, v < 65536 ∧ s.2.2.2.2.1 = nI v := bits_nI (n := 16) (by omega) (fun p hp => by have := (h.2.2.2.2.2.1 p hp).1; have := h.1.2; omega)
abbrev xgo (x : sX) (n t : Nat) (s : sZ) : sZ := sgo x.2.2.2.1 x.2.2.2.2.1 x.2.2.1 n t s
abbrev xbn (x : sX) (n t : Nat) (s : sZ) : Int32 := sbn x.2.2.2.1 x.2.2.2.2.1 x.2.2.1 n t s
theorem sok_go {pl wl : List tk} {sl : List Nat} : ∀ (n t : Nat) {s : sZ}, sok s → sok (sgo pl wl sl n t s)
  | 0, _, _, h => h
  | n + 1, t, _, h => sok_go n (t + 1) (sok_day h)
section
variable {d : Nat} {k : Int32 → hG → hE → Prop} {kv : hG → hE → Prop} {X : Nat → hG → hE → Prop} {g : hG} {e : hE} {D : Nat} {x : sX}
theorem c_passDays (hc : cdr g D x) {i : Nat} (hi : i < 4) {s : sZ} (hs : ct x.2.2.2.1 g (1038 + i) s) {n : Nat} (hn : n ≤ 1000) (H : ∀ g', pf D (1038 + i) g g' → ct x.2.2.2.1 g' (1038 + i) (xgo x n x.2.2.2.2.2 s) → k (xbn x n x.2.2.2.2.2 s) g' e) : hci (d + 5) 211 [.ref 1000, .ref (1038 + i), .int (nI n)] g e k X := by
  have ht := hc.2.2.2.2.2.2
  refine zh_X7_passDays (hT_trial hi) ?_
  have : ∀ m j, j + m = n → ∀ (s' : sZ) (b : Int32) (g1 : hG), pf D (1038 + i) g g1 → ct x.2.2.2.1 g1 (1038 + i) s' → xgo x m (x.2.2.2.2.2 + j) s' = xgo x n x.2.2.2.2.2 s → b + xbn x m (x.2.2.2.2.2 + j) s' = xbn x n x.2.2.2.2.2 s → hwi (d + 4) zm_X7_passDays k X 5 [(0, .ref 1000), (1, .ref (1038 + i)), (2, .int (nI n)), (3, .int b), (4, .int (nI j))] g1 e := by
    intro m
    induction m with
    | zero =>
      intro j hj s' b g1 p1 c1 h1 h2
      refine zh_X7_passDays_5 (hT_trial hi) (zbr_t (nI_le (by omega) (by omega)) ?_)
      rw [show xgo x 0 (x.2.2.2.2.2 + j) s' = s' from rfl] at h1
      rw [show xbn x 0 (x.2.2.2.2.2 + j) s' = 0 from rfl, Int32.add_zero] at h2
      subst h1
      subst h2
      exact H g1 p1 c1
    | succ m ih =>
      intro j hj s' b g1 p1 c1 h1 h2
      have hc1 : cdr g1 D x := cdr_qf (qf_pf hi p1) hc
      refine zh_X7_passDays_5 (hT_trial hi) (zbr_f (nI_ge (by omega) (by omega)) (c_closedBits (hT_trial hi) ?_))
      rw [c1.1.2.2.2.2.1]
      refine ⟨fun c => ?_, fun c => ?_⟩
      · obtain ⟨a1, a2⟩ := sgo_0 (pl := x.2.2.2.1) (wl := x.2.2.2.2.1) (sl := x.2.2.1) c (m + 1) (x.2.2.2.2.2 + j)
        have h1 : s' = xgo x n x.2.2.2.2.2 s := a1.symm.trans h1
        have h2 : b = xbn x n x.2.2.2.2.2 s := by rw [← h2]; show b = b + sbn _ _ _ _ _ _; rw [a2, Int32.add_zero]
        rw [h1] at c1
        rw [h2]
        exact H g1 p1 c1
      · rw [hc1.1.2]
        refine ⟨hc1.1.1, zh_X2_today hc1.1.1 ?_⟩
        rw [hc1.1.2, hc1.2.2.2.2.2.1, nI_add]
        have := sstr_le hc1.2.2.2.1.2.2.2 (x.2.2.2.2.2 + j)
        refine ⟨hc1.1.1, hc1.1.1, c_strainOn hc1 (by omega) (c_passD hc1 hi c1 (by omega) (fun g2 p2 c2 _ => c_bitCount ?_))⟩
        rw [nI_1]
        refine ih (j + 1) (by omega) _ _ g2 (p1.trans p2) c2 h1 ?_
        rw [← h2, Int32.add_assoc]
        rfl
  exact this n 0 (by omega) s 0 g pf.rfl' hs rfl (by rw [Int32.zero_add]; rfl)
theorem c_closedBehind (hc : cdr g D x) {i : Nat} (hi : i < 4) {s : sZ} (hs : ct x.2.2.2.1 g (1038 + i) s) {n : Nat} (hn : n ≤ 1000) (H : ∀ g', pf D (1038 + i) g g' → k (jbc (xgo x n x.2.2.2.2.2 s).2.2.2.2.1) g' e) : hci (d + 6) 212 [.ref 1000, .ref (1038 + i), .int (nI n)] g e k X := by
  refine zh_X7_closedBehind (hT_trial hi) (c_passDays hc hi hs hn (fun g1 p1 c1 => c_closedCount (hT_trial hi) ?_))
  rw [c1.1.2.2.2.2.1]
  exact H g1 p1
/-- THEN -/
def v_then (x : sX) (i n w : Nat) : Int32 := match w with
  | 0 => (xgo x n x.2.2.2.2.2 (x.2.1 i)).2.2.2.2.1
  | 1 => jbc (xgo x n x.2.2.2.2.2 (x.2.1 i)).2.2.2.2.1
  | 2 => ssum (xgo x n x.2.2.2.2.2 (x.2.1 i)) (xgo x n x.2.2.2.2.2 (x.2.1 i)).1
  | 3 => (zlr (xgo x n x.2.2.2.2.2 (x.2.1 i)).2.2.2.2.1 (xgo x n x.2.2.2.2.2 (x.2.1 i)).1).1
  | _ => xbn x n x.2.2.2.2.2 (x.2.1 i)
def o_then (x : sX) (z n w : Int32) : rs := if iszb x.1 z && iszb 5 w then (if isrb 0 60 n then .inl (v_then x z.toNatClampNeg n.toNatClampNeg w.toNatClampNeg) else .inr 0) else .inr 1
theorem cq_then (hc : cdr g D x) (hr : hrm e) {z n w : Int32} (H : ∀ g', qf D g g' → oc (o_then x z n w) k X g' e) : hci (d + 7) 161 [.ref 1000, .int z, .int n, .int w] g e k X := by
  have h4 := hc.2.1.2
  refine zh_X7_then (c_trialOf hc hr (fun i hi hz g1 q1 c1 _ => ⟨hT_trial (by omega), ?_⟩) (fun h => oc_r (H g qf.refl) (by unfold o_then; rw [iszb_f (by omega) h]; rfl)))
  subst hz
  refine c_checkWhat hr (n := 5) (by omega) (fun j hj hw => ?_) (fun h => oc_r (H g1 q1) (by unfold o_then; rw [iszb_f (by omega) h, Bool.and_false]; rfl))
  subst hw
  have hzw : (iszb x.1 (nI i) && iszb 5 (nI j)) = true := by rw [iszb_t (by omega) hi, iszb_t (by omega) hj]; rfl
  refine c_checkRange hr (a := 0) (b := 60) (by omega) (by omega) (fun m _ hm hn => ?_) (fun h => oc_r (H g1 q1) (by unfold o_then; rw [hzw, isrb_f (by omega) (by omega) h]; rfl))
  subst hn
  have hc1 := cdr_qf q1 hc
  have hv : o_then x (nI i) (nI m) (nI j) = .inl (v_then x i m j) := by
    unfold o_then
    rw [hzw, isrb_t (by omega) (by omega) hm, nI_clamp (by omega), nI_clamp (by omega), nI_clamp (by omega)]
    rfl
  refine c_passDays hc1 (by omega) c1 (by omega) (fun g2 p2 c2 => ?_)
  have q2 : qf D g g2 := q1.trans (qf_pf (by omega) p2)
  have fin : ∀ v, v = v_then x i m j → k v g2 e := fun v e => by subst e; exact oc_l (H g2 q2) hv
  have hn := c2.2.1.1.2
  match j, hj with
  | 0, _ => exact zbr_t rfl (c_closedBits (hT_trial (by omega)) (fin _ c2.1.2.2.2.2.1))
  | 1, _ => exact zbr_f (by decide) (zbr_t rfl (c_closedCount (hT_trial (by omega)) (fin _ (by rw [c2.1.2.2.2.2.1]; rfl))))
  | 2, _ => exact zbr_f (by decide) (zbr_f (by decide) (zbr_t rfl (c_gripSum (hT_trial (by omega)) c2.1.1 hn (fin _ (zrel_sum c2.1 _ hn)))))
  | 3, _ => exact zbr_f (by decide) (zbr_f (by decide) (zbr_f (by decide) (zbr_t rfl (c_longestRun (hT_trial (by omega)) c2.1.1 hn (fin _ (by rw [c2.1.2.2.2.2.1]; rfl))))))
  | 4, _ => exact zbr_f (by decide) (zbr_f (by decide) (zbr_f (by decide) (zbr_f (by decide) (fin _ rfl))))
  | n + 5, h => exact absurd h (by omega)
end
