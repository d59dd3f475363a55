/-! rules: words (0, number), (1, value asked), (2, not), (3, or and less same plus minus times over), their codes, what they give -/
abbrev tk : Type := Nat × Nat
def cC (t : tk) : Int32 := match t.1 with
  | 0 => nI t.2
  | 1 => -nI (t.2 + 1)
  | 2 => -6
  | _ => -nI (7 + t.2)
def cM3 : Nat → Int32
  | 0 => -27
  | 1 => -26
  | 2 => -24
  | 3 => -25
  | 4 => -20
  | 5 => -21
  | 6 => -22
  | _ => -23
def cM (t : tk) : Int32 := match t.1 with
  | 0 => nI t.2
  | 1 => -nI (t.2 + 1)
  | 2 => -28
  | _ => cM3 t.2
def bop (o : Nat) (x y : Int32) : Int32 := match o with
  | 0 => if x = 0 then (if y = 0 then 0 else 1) else 1
  | 1 => if x = 0 then 0 else if y = 0 then 0 else 1
  | 2 => if y ≤ x then 0 else 1
  | 3 => if x = y then 1 else 0
  | 4 => x + y
  | 5 => x - y
  | 6 => x * y
  | _ => if y = 0 then 0 else x / y
def evs (q : Nat → Int32) : List tk → List Int32 → List Int32
  | [], s => s
  | t :: l, s => match t.1 with
    | 0 => evs q l (nI t.2 :: s)
    | 1 => evs q l (q t.2 :: s)
    | 2 => match s with
      | x :: s => evs q l ((if x = 0 then 1 else 0) :: s)
      | [] => []
    | _ => match s with
      | y :: x :: s => evs q l (bop t.2 x y :: s)
      | _ => []
def evl (q : Nat → Int32) (l : List tk) : Int32 := (evs q l []).headD 0
def wft : List tk → Nat → Prop
  | [], d => d = 1
  | t :: l, d => match t.1 with
    | 0 => t.2 < 10000 ∧ d < 40 ∧ wft l (d + 1)
    | 1 => t.2 < 5 ∧ d < 40 ∧ wft l (d + 1)
    | 2 => 1 ≤ d ∧ wft l d
    | 3 => t.2 < 8 ∧ 2 ≤ d ∧ wft l (d - 1)
    | _ => False
def stk (f : Nat → Int32) : List Int32 → Prop
  | [] => True
  | x :: s => f s.length = x ∧ stk f s
theorem stk_upd {f : Nat → Int32} {i : Nat} {v : Int32} : ∀ {s : List Int32}, stk f s → s.length ≤ i → stk (upd f i v) s
  | [], _, _ => trivial
  | x :: s, h, hi => ⟨by rw [upd_off _ _ (by simp at hi; omega)]; exact h.1, stk_upd h.2 (by simp at hi; omega)⟩
theorem stk_push {f : Nat → Int32} {v : Int32} {s : List Int32} (h : stk f s) : stk (upd f s.length v) (v :: s) := ⟨upd_at _ _ _, stk_upd h (Nat.le_refl _)⟩
theorem nneg {v c : Nat} (hv : v < 2 ^ 31) (h0 : 0 < c) (hc : c < 2 ^ 31) : ¬ nI v = -nI c := by
  intro h
  have := congrArg Int32.toInt h
  rw [nI_toInt hv, sb_negT hc] at this
  omega
theorem nnle {v c : Nat} (hv : v < 2 ^ 31) (h0 : 0 < c) (hc : c < 2 ^ 31) : ¬ nI v ≤ -nI c := by
  intro h
  have := Int32.le_iff_toInt_le.mp h
  rw [nI_toInt hv, sb_negT hc] at this
  omega
def qv (a b c d e : Int32) (i : Nat) : Int32 := match i with
  | 0 => a
  | 1 => b
  | 2 => c
  | 3 => d
  | _ => e
section
variable {d : Nat} {k : Int32 → hG → hE → Prop} {kv : hG → hE → Prop} {X : Nat → hG → hE → Prop} {g : hG} {e : hE} {a : Nat}
theorem aI1 (g : hG) (a : Nat) (f : Nat → Int32) : (aI g a f).1 a = f := va_up_at _ _ _
theorem aI_off (g : hG) {a b : Nat} (f : Nat → Int32) (h : ¬ b = a) : (aI g a f).1 b = g.1 b := va_up_off _ _ h
theorem sI_aI (g : hG) (a i : Nat) (f : Nat → Int32) (v : Int32) : sI (aI g a f) a i v = aI g a (upd f i v) := by
  unfold sI aI
  simp only [va_up_at, va_up_up]
theorem aI_id (g : hG) (a : Nat) : aI g a (g.1 a) = g := by
  unfold aI
  rw [va_up_id]
theorem c_joined {o : Nat} (ho : o < 8) {x y : Int32} (H : k (bop o x y) g e) : hci (d + 1) 97 [.int (cC (3, o)), .int x, .int y] g e k X := by
  refine zh_X4_joined ?_
  match o, ho with
  | 0, _ => exact zbr_f (by decide) (zbr_f (by decide) (zbr_f (by decide) (zbr_f (by decide) (zbr_f (by decide) (zbr_f (by decide) (zbr_t (by decide) ⟨fun c => ⟨fun c2 => by rw [show bop 0 x y = 0 by simp [bop, c, c2]] at H; exact H, fun c2 => by rw [show bop 0 x y = 1 by simp [bop, c, c2]] at H; exact H⟩, fun c => by rw [show bop 0 x y = 1 by simp [bop, c]] at H; exact H⟩))))))
  | 1, _ => exact zbr_f (by decide) (zbr_f (by decide) (zbr_f (by decide) (zbr_f (by decide) (zbr_f (by decide) (zbr_t (by decide) ⟨fun c => by rw [show bop 1 x y = 0 by simp [bop, c]] at H; exact H, fun c => ⟨fun c2 => by rw [show bop 1 x y = 0 by simp [bop, c, c2]] at H; exact H, fun c2 => by rw [show bop 1 x y = 1 by simp [bop, c, c2]] at H; exact H⟩⟩)))))
  | 2, _ => exact zbr_f (by decide) (zbr_f (by decide) (zbr_f (by decide) (zbr_f (by decide) (zbr_t (by decide) (zbr_ite (P := fun x => k x g e) H)))))
  | 3, _ => exact zbr_f (by decide) (zbr_f (by decide) (zbr_f (by decide) (zbr_t (by decide) (zbr_ite (P := fun x => k x g e) H))))
  | 4, _ => exact zbr_f (by decide) (zbr_f (by decide) (zbr_t (by decide) H))
  | 5, _ => exact zbr_f (by decide) (zbr_t (by decide) H)
  | 6, _ => exact zbr_t (by decide) H
  | 7, _ => exact zbr_f (by decide) (zbr_f (by decide) (zbr_f (by decide) (zbr_f (by decide) (zbr_f (by decide) (zbr_f (by decide) (zbr_f (by decide) ⟨fun c => by rw [show bop 7 x y = 0 by simp [bop, c]] at H; exact H, fun c => ⟨c, by rw [show bop 7 x y = x / y by simp [bop, c]] at H; exact H⟩⟩))))))
  | n + 8, h => exact absurd h (by omega)
theorem c_reckon {o : Nat} (ho : o < 8) {x y : Int32} (H : k (bop o x y) g e) : hci (d + 1) 258 [.int (cM (3, o)), .int x, .int y] g e k X := by
  refine zh_X8_reckon ?_
  match o, ho with
  | 0, _ => exact zbr_f (by decide) (zbr_f (by decide) (zbr_f (by decide) (zbr_f (by decide) (zbr_f (by decide) (zbr_f (by decide) (zbr_f (by decide) ⟨fun c => ⟨fun c2 => by rw [show bop 0 x y = 0 by simp [bop, c, c2]] at H; exact H, fun c2 => by rw [show bop 0 x y = 1 by simp [bop, c, c2]] at H; exact H⟩, fun c => by rw [show bop 0 x y = 1 by simp [bop, c]] at H; exact H⟩))))))
  | 1, _ => exact zbr_t (by decide) ⟨fun c => by rw [show bop 1 x y = 0 by simp [bop, c]] at H; exact H, fun c => ⟨fun c2 => by rw [show bop 1 x y = 0 by simp [bop, c, c2]] at H; exact H, fun c2 => by rw [show bop 1 x y = 1 by simp [bop, c, c2]] at H; exact H⟩⟩
  | 2, _ => exact zbr_f (by decide) (zbr_f (by decide) (zbr_t (by decide) (zbr_ite (P := fun x => k x g e) H)))
  | 3, _ => exact zbr_f (by decide) (zbr_t (by decide) (zbr_ite (P := fun x => k x g e) H))
  | 4, _ => exact zbr_f (by decide) (zbr_f (by decide) (zbr_f (by decide) (zbr_f (by decide) (zbr_f (by decide) (zbr_f (by decide) (zbr_t (by decide) H))))))
  | 5, _ => exact zbr_f (by decide) (zbr_f (by decide) (zbr_f (by decide) (zbr_f (by decide) (zbr_f (by decide) (zbr_t (by decide) H)))))
  | 6, _ => exact zbr_f (by decide) (zbr_f (by decide) (zbr_f (by decide) (zbr_f (by decide) (zbr_t (by decide) H))))
  | 7, _ => exact zbr_f (by decide) (zbr_f (by decide) (zbr_f (by decide) (zbr_t (by decide) ⟨fun c => by rw [show bop 7 x y = 0 by simp [bop, c]] at H; exact H, fun c => ⟨c, by rw [show bop 7 x y = x / y by simp [bop, c]] at H; exact H⟩⟩)))
  | n + 8, h => exact absurd h (by omega)
theorem hU_ne {u : Nat} (hu : hU u) : ¬ u = u + 1 ∧ ¬ hus u = u + 1 := by rcases hu with rfl | rfl | rfl | rfl <;> decide
theorem cC1 : ∀ i, i < 5 → ¬ cC (1, i) ≤ (-6) := by decide +kernel
theorem cC3 : ∀ o, o < 8 → cC (3, o) ≤ (-6) ∧ ¬ cC (3, o) = (-6) := by decide +kernel
theorem value_loop {u : Nat} (hu : hU u) {v1 v2 v3 v4 v5 : Int32} {t : Nat} (ht : t ≤ 700) (hto : g.1 u 1 = nI t) :
    ∀ (l : List tk) (i : Nat) (s : List Int32) (f : Nat → Int32), wft l s.length → stk f s → s.length ≤ 40 → i + l.length = t → (∀ j t, l[j]? = some t → g.1 (hus u) (i + j) = cC t) → (∀ f, k ((evs (qv v1 v2 v3 v4 v5) l s).headD 0) (aI g (u + 1) f) e) →
      hwi (d + 1) zm_X4_value k X 13 [(0, .ref u), (1, .ref (hus u)), (2, .int v1), (3, .int v2), (4, .int v3), (5, .int v4), (6, .int v5), (7, .int (nI s.length)), (8, .int (nI i))] (aI g (u + 1) f) e := by
  obtain ⟨n1, n2⟩ := hU_ne hu
  intro l
  induction l with
  | nil =>
    intro i s f hw hs h40 hi hc H
    simp only [List.length_nil, Nat.add_zero] at hi
    subst hi
    refine zh_X4_value_13 hu (hTU0 hu) (zbr_t ?_ ?_)
    · rw [aI_off _ _ n1, hto]; exact nI_le (Nat.le_refl _) (by omega)
    · have hw : s.length = 1 := hw
      rw [aI1]
      match s, hw, hs with
      | [x], _, hs =>
        have : f 0 = x := hs.1
        rw [this]
        exact H f
  | cons w l ih =>
    intro i s f hw hs h40 hi hc H
    have h0 : g.1 (hus u) i = cC w := hc 0 w rfl
    have hi' : i < t := by simp at hi; omega
    have hc' : ∀ j t, l[j]? = some t → g.1 (hus u) (i + 1 + j) = cC t := fun j t hj => by rw [show i + 1 + j = i + (j + 1) by omega]; exact hc (j + 1) t hj
    have hi2 : i + 1 + l.length = t := by simp at hi; omega
    have ei : (nI i).toNatClampNeg = i := nI_clamp (by omega)
    have es : (nI s.length).toNatClampNeg = s.length := nI_clamp (by omega)
    refine zh_X4_value_13 hu (hTU0 hu) (zbr_f ?_ (zbr_f ?_ ⟨nI_in (by omega) (by omega), ?_⟩))
    · rw [aI_off _ _ n1, hto]; exact nI_ge hi' (by omega)
    · exact nI_ge (by omega) (by omega)
    rw [aI_off _ _ n2, ei, h0, aI1, es]
    obtain ⟨wk, wv⟩ := w
    match wk, hw with
    | 0, hw =>
      obtain ⟨w1, w2, w3⟩ := hw
      have w1 : wv < 10000 := w1
      have eq : ∀ c, 0 < c → c < 100 → ¬ cC (0, wv) = -nI c := fun c h1 h2 => nneg (by omega) h1 (by omega)
      refine zbr_f (show ¬ nI wv ≤ -nI 6 from nnle (by omega) (by omega) (by omega)) (zbr_t (nI_lt w2 (by omega)) ?_)
      refine zbr_f (eq 5 (by omega) (by omega)) (zbr_f (eq 4 (by omega) (by omega)) (zbr_f (eq 3 (by omega) (by omega)) (zbr_f (eq 2 (by omega) (by omega)) (zbr_f (eq 1 (by omega) (by omega)) ⟨nI_in w2 (by omega), ?_⟩))))
      rw [sI_aI, nI_1, nI_1]
      exact ih (i + 1) (nI wv :: s) _ w3 (stk_push hs) (by simp; omega) hi2 hc' H
    | 1, hw =>
      obtain ⟨w1, w2, w3⟩ := hw
      have w1 : wv < 5 := w1
      refine zbr_f (cC1 wv w1) (zbr_t (nI_lt w2 (by omega)) ?_)
      have go : ∀ v, v = qv v1 v2 v3 v4 v5 wv → hin (nI s.length) 40 ∧ hwi (d + 1) zm_X4_value k X 13 [(0, .ref u), (1, .ref (hus u)), (2, .int v1), (3, .int v2), (4, .int v3), (5, .int v4), (6, .int v5), (7, .int (nI s.length + 1)), (8, .int (nI i + 1))] (sI (aI g (u + 1) f) (u + 1) s.length v) e := by
        rintro v rfl
        refine ⟨nI_in w2 (by omega), ?_⟩
        rw [sI_aI, nI_1, nI_1]
        exact ih (i + 1) (qv v1 v2 v3 v4 v5 wv :: s) _ w3 (stk_push hs) (by simp; omega) hi2 hc' H
      match wv, w1 with
      | 0, _ => exact zbr_f (by decide) (zbr_f (by decide) (zbr_f (by decide) (zbr_f (by decide) (zbr_t (by decide) (go _ rfl)))))
      | 1, _ => exact zbr_f (by decide) (zbr_f (by decide) (zbr_f (by decide) (zbr_t (by decide) (go _ rfl))))
      | 2, _ => exact zbr_f (by decide) (zbr_f (by decide) (zbr_t (by decide) (go _ rfl)))
      | 3, _ => exact zbr_f (by decide) (zbr_t (by decide) (go _ rfl))
      | 4, _ => exact zbr_t (by decide) (go _ rfl)
      | n + 5, h => exact absurd h (by omega)
    | 2, hw =>
      obtain ⟨w1, w3⟩ := hw
      match s, hs with
      | x :: s, hs =>
        have ex : nI (x :: s).length - 1 = nI s.length := nI_pred _
        have es' : (nI s.length).toNatClampNeg = s.length := nI_clamp (by simp at h40; omega)
        have hx : f s.length = x := hs.1
        have h40 : s.length + 1 ≤ 40 := h40
        refine zbr_t (show (-6 : Int32) ≤ -6 by decide) (zbr_t (show (-6 : Int32) = -6 from rfl) (zbr_f (by rw [show (1 : Int32) = nI 1 from rfl]; exact nI_nlt (by simp) (by simp; omega)) ?_))
        rw [ex, es', hx]
        refine ⟨nI_in (by omega) (by omega), ⟨fun c => ⟨nI_in (by omega) (by omega), ?_⟩, fun c => ⟨nI_in (by omega) (by omega), ?_⟩⟩⟩
        · rw [sI_aI, nI_1]
          refine ih (i + 1) (1 :: s) _ w3 ⟨upd_at _ _ _, stk_upd hs.2 (Nat.le_refl _)⟩ h40 hi2 hc' (fun f => ?_)
          have := H f
          rw [show evs (qv v1 v2 v3 v4 v5) ((2, wv) :: l) (x :: s) = evs (qv v1 v2 v3 v4 v5) l ((if x = 0 then 1 else 0) :: s) from rfl, if_pos c] at this
          exact this
        · rw [sI_aI, nI_1]
          refine ih (i + 1) (0 :: s) _ w3 ⟨upd_at _ _ _, stk_upd hs.2 (Nat.le_refl _)⟩ h40 hi2 hc' (fun f => ?_)
          have := H f
          rw [show evs (qv v1 v2 v3 v4 v5) ((2, wv) :: l) (x :: s) = evs (qv v1 v2 v3 v4 v5) l ((if x = 0 then 1 else 0) :: s) from rfl, if_neg c] at this
          exact this
      | [], _ => exact absurd w1 (by simp)
    | 3, hw =>
      obtain ⟨w1, w2, w3⟩ := hw
      have w1 : wv < 8 := w1
      match s, hs with
      | y :: x :: s, hs =>
        have e1 : nI (y :: x :: s).length + (-1) = nI (s.length + 1) := pk_m1 _
        have e2 : nI (s.length + 1) - 1 = nI s.length := nI_pred _
        have h40 : s.length + 2 ≤ 40 := h40
        have e3 : (nI s.length).toNatClampNeg = s.length := nI_clamp (by omega)
        have e4 : (nI (s.length + 1)).toNatClampNeg = s.length + 1 := nI_clamp (by omega)
        have hy : f (s.length + 1) = y := hs.1
        have hx : f s.length = x := hs.2.1
        refine zbr_t (cC3 wv w1).1 (zbr_f (cC3 wv w1).2 (zbr_f (by rw [show (2 : Int32) = nI 2 from rfl]; exact nI_nlt (by simp) (by simp; omega)) ?_))
        rw [e1, e2, e3, e4, hx, hy]
        refine ⟨nI_in (by omega) (by omega), nI_in (by omega) (by omega), c_joined w1 ⟨nI_in (by omega) (by omega), ?_⟩⟩
        rw [sI_aI, nI_1]
        exact ih (i + 1) (bop wv x y :: s) _ (by simpa using w3) ⟨upd_at _ _ _, stk_upd hs.2.2 (Nat.le_refl _)⟩ (by simp; omega) hi2 hc' H
      | [_], _ => exact absurd w2 (by simp)
      | [], _ => exact absurd w2 (by simp)
    | n + 4, hw => exact hw.elim
/-- a rule of the class says l: its steps lie in the drawer's row -/
def crl (g : hG) (u : Nat) (l : List tk) : Prop := ∃ f t : Nat, g.1 u 0 = nI f ∧ g.1 u 1 = nI t ∧ f + l.length = t ∧ t ≤ 700 ∧ ∀ j w, l[j]? = some w → g.1 (hus u) (f + j) = cC w
theorem c_value {u r : Nat} (hu : hU u) (hr : r = hus u) {v1 v2 v3 v4 v5 : Int32} {l : List tk} (hl : crl g u l) (hw : wft l 0) (H : ∀ f, k (evl (qv v1 v2 v3 v4 v5) l) (aI g (u + 1) f) e) : hci (d + 2) 96 [.ref u, .ref r, .int v1, .int v2, .int v3, .int v4, .int v5] g e k X := by
  obtain ⟨f, t, h1, h2, h3, h4, h5⟩ := hl
  subst hr
  refine zh_X4_value hu (hTU0 hu) (c_max ?_)
  rw [h1, show imx 0 (nI f) = nI f by
    unfold imx
    by_cases z : (0 : Int32) < nI f
    · rw [if_pos z]
    · rw [if_neg z]
      cases f with
      | zero => rfl
      | succ f => exact absurd (show nI 0 < nI (f + 1) from nI_lt (by omega) (by omega)) z]
  have := value_loop (d := d) (k := k) (X := X) (g := g) (e := e) hu (v1 := v1) (v2 := v2) (v3 := v3) (v4 := v4) (v5 := v5) h4 h2 l f [] (g.1 (u + 1)) hw trivial (by simp) h3 h5 H
  rw [aI_id] at this
  exact this
theorem cM1 : ∀ i, i < 5 → ¬ cM (1, i) ≤ (-20) ∧ cM (1, i) < 0 ∧ (-1) - cM (1, i) = nI i := by decide +kernel
theorem cM3' : ∀ o, o < 8 → cM (3, o) ≤ (-20) ∧ ¬ cM (3, o) = (-28) := by decide +kernel
theorem valueNow_loop {b n : Nat} (hb : hT b = some (.inl (0, n))) (hb6 : ¬ b = 1066) (hn : n < 2 ^ 31) {q : Nat → Int32} {t : Nat} (ht : t ≤ n) (hq : ∀ i, i < 5 → g.1 1065 i = q i) :
    ∀ (l : List tk) (i : Nat) (s : List Int32) (f : Nat → Int32), wft l s.length → stk f s → s.length ≤ 40 → i + l.length = t → (∀ j t, l[j]? = some t → g.1 b (i + j) = cM t) → (∀ f, k ((evs q l s).headD 0) (aI g 1066 f) e) →
      hwi (d + 1) zm_X8_valueNow k X 5 [(0, .ref 1046), (1, .ref b), (2, .int (nI t)), (3, .int (nI s.length)), (4, .int (nI i))] (aI g 1066 f) e := by
  intro l
  induction l with
  | nil =>
    intro i s f hw hs h40 hi hc H
    simp only [List.length_nil, Nat.add_zero] at hi
    subst hi
    refine zh_X8_valueNow_5 hb (zbr_t (nI_le (Nat.le_refl _) (by omega)) ?_)
    have hw : s.length = 1 := hw
    rw [aI1]
    match s, hw, hs with
    | [x], _, hs =>
      have : f 0 = x := hs.1
      rw [this]
      exact H f
  | cons w l ih =>
    intro i s f hw hs h40 hi hc H
    have h0 : g.1 b i = cM w := hc 0 w rfl
    have hi' : i < t := by simp at hi; omega
    have hc' : ∀ j t, l[j]? = some t → g.1 b (i + 1 + j) = cM t := fun j t hj => by rw [show i + 1 + j = i + (j + 1) by omega]; exact hc (j + 1) t hj
    have hi2 : i + 1 + l.length = t := by simp at hi; omega
    have ei : (nI i).toNatClampNeg = i := nI_clamp (by omega)
    have es : (nI s.length).toNatClampNeg = s.length := nI_clamp (by omega)
    refine zh_X8_valueNow_5 hb (zbr_f (nI_ge hi' (by omega)) ⟨nI_in (by omega) (by omega), ?_⟩)
    rw [aI_off _ _ hb6, ei, h0, aI1, es]
    obtain ⟨wk, wv⟩ := w
    match wk, hw with
    | 0, hw =>
      obtain ⟨w1, w2, w3⟩ := hw
      have w1 : wv < 10000 := w1
      refine zbr_f (show ¬ nI wv ≤ -nI 20 from nnle (by omega) (by omega) (by omega)) (zbr_f (show ¬ nI wv < 0 from nI_pos (by omega)) ⟨nI_in (by omega) (by omega), ?_⟩)
      rw [sI_aI, nI_1, nI_1]
      exact ih (i + 1) (nI wv :: s) _ w3 (stk_push hs) (by simp; omega) hi2 hc' H
    | 1, hw =>
      obtain ⟨w1, w2, w3⟩ := hw
      have w1 : wv < 5 := w1
      obtain ⟨m1, m2, m3⟩ := cM1 wv w1
      refine zbr_f m1 (zbr_t m2 ?_)
      rw [m3, nI_clamp (show wv < 2 ^ 31 by omega), aI_off _ _ (by decide), hq wv w1]
      refine ⟨nI_in w1 (by omega), nI_in (by omega) (by omega), ?_⟩
      rw [sI_aI, nI_1, nI_1]
      exact ih (i + 1) (q wv :: s) _ w3 (stk_push hs) (by simp; omega) hi2 hc' H
    | 2, hw =>
      obtain ⟨w1, w3⟩ := hw
      match s, hs with
      | x :: s, hs =>
        have ex : nI (x :: s).length - 1 = nI s.length := nI_pred _
        have es' : (nI s.length).toNatClampNeg = s.length := nI_clamp (by simp at h40; omega)
        have hx : f s.length = x := hs.1
        have h40 : s.length + 1 ≤ 40 := h40
        refine zbr_t (show (-28 : Int32) ≤ -20 by decide) (zbr_t (show (-28 : Int32) = -28 from rfl) ?_)
        rw [ex, es', hx]
        refine ⟨nI_in (by omega) (by omega), ⟨fun c => ⟨nI_in (by omega) (by omega), ?_⟩, fun c => ⟨nI_in (by omega) (by omega), ?_⟩⟩⟩
        · rw [sI_aI, nI_1]
          refine ih (i + 1) (1 :: s) _ w3 ⟨upd_at _ _ _, stk_upd hs.2 (Nat.le_refl _)⟩ h40 hi2 hc' (fun f => ?_)
          have := H f
          rw [show evs q ((2, wv) :: l) (x :: s) = evs q l ((if x = 0 then 1 else 0) :: s) from rfl, if_pos c] at this
          exact this
        · rw [sI_aI, nI_1]
          refine ih (i + 1) (0 :: s) _ w3 ⟨upd_at _ _ _, stk_upd hs.2 (Nat.le_refl _)⟩ h40 hi2 hc' (fun f => ?_)
          have := H f
          rw [show evs q ((2, wv) :: l) (x :: s) = evs q l ((if x = 0 then 1 else 0) :: s) from rfl, if_neg c] at this
          exact this
      | [], _ => exact absurd w1 (by simp)
    | 3, hw =>
      obtain ⟨w1, w2, w3⟩ := hw
      have w1 : wv < 8 := w1
      match s, hs with
      | y :: x :: s, hs =>
        have e1 : nI (y :: x :: s).length + (-1) = nI (s.length + 1) := pk_m1 _
        have e2 : nI (s.length + 1) - 1 = nI s.length := nI_pred _
        have h40 : s.length + 2 ≤ 40 := h40
        have e3 : (nI s.length).toNatClampNeg = s.length := nI_clamp (by omega)
        have e4 : (nI (s.length + 1)).toNatClampNeg = s.length + 1 := nI_clamp (by omega)
        have hy : f (s.length + 1) = y := hs.1
        have hx : f s.length = x := hs.2.1
        refine zbr_t (cM3' wv w1).1 (zbr_f (cM3' wv w1).2 ?_)
        rw [e1, e2, e3, e4, hx, hy]
        refine ⟨nI_in (by omega) (by omega), nI_in (by omega) (by omega), c_reckon w1 ⟨nI_in (by omega) (by omega), ?_⟩⟩
        rw [sI_aI, nI_1]
        exact ih (i + 1) (bop wv x y :: s) _ (by simpa using w3) ⟨upd_at _ _ _, stk_upd hs.2.2 (Nat.le_refl _)⟩ (by simp; omega) hi2 hc' H
      | [_], _ => exact absurd w2 (by simp)
      | [], _ => exact absurd w2 (by simp)
    | n + 4, hw => exact hw.elim
/-- signs of the model, from a row's beginning -/
def mrl (f : Nat → Int32) (l : List tk) : Prop := ∀ j w, l[j]? = some w → f j = cM w
theorem c_valueNow {b n : Nat} (hb : hT b = some (.inl (0, n))) (hb6 : ¬ b = 1066) (hn : n < 2 ^ 31) {q : Nat → Int32} {l : List tk} (ht : l.length ≤ n) (hq : ∀ i, i < 5 → g.1 1065 i = q i) (hl : mrl (g.1 b) l) (hw : wft l 0) (H : ∀ f, k (evl q l) (aI g 1066 f) e) : hci (d + 2) 259 [.ref 1046, .ref b, .int (nI l.length)] g e k X := by
  refine zh_X8_valueNow hb ?_
  have := valueNow_loop (d := d) (k := k) (X := X) (g := g) (e := e) hb hb6 hn ht hq l 0 [] (g.1 1066) hw trivial (by simp) (by omega) (fun j t h => by rw [Nat.zero_add]; exact hl j t h) H
  rw [aI_id] at this
  exact this
end
