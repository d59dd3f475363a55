/-! AN EXECUTOR over lists, for the constructors -/
abbrev xC : Type := (Nat × Nat × List Nat) ⊕ (Nat × List Value)
/-- cells made, slots made, the cells from 1000 on -/
abbrev xH : Type := Nat × Nat × List xC
abbrev xF : Type := Nat × List (Nat × Value) × List Value × xH
def xrw (q n : Nat) (rs : List Nat) : zC := .inl (q, n, match q with
  | 0 => .inl (fun _ => 0)
  | 1 => .inr (.inl (fun _ => 0))
  | 2 => .inl (fun _ => 0)
  | _ => .inr (.inr (.inr (.inr (fun i => rs[i]?)))))
def xzc (c : xC) : zC := match c with
  | .inl r => xrw r.1 r.2.1 r.2.2
  | .inr o => .inr o
def xcl (f : Nat → Option zC) (L : List xC) (a : Nat) : Option zC := if a < 1000 then f a else (L[a - 1000]?).map xzc
def xh (f : Nat → Option zC) (H : xH) : zH := (H.2.2.length + 1, H.1, H.2.1, xcl f H.2.2)
def xfr (f : Nat → Option zC) (r : xF) : zF := (r.1, r.2.1, r.2.2.1, xh f r.2.2.2)
def xnx (M : zM) (pc : Nat) (lv : List (Nat × Value)) (st : List Value) (H : xH) : xF := (pc, zkp (M.2.2.1 pc) lv, st, H)
/-- reads and writes -/
def xgr (H : xH) (a c k : Nat) : Option Nat := bif Nat.blt a 1000 then none else match H.2.2[a - 1000]? with
  | some (.inr (d, fs)) => bif Nat.beq d c then (match fs[k]? with
    | some (.ref x) => some x
    | _ => none) else none
  | _ => none
def xpf (H : xH) (a c k : Nat) (v : Value) : Option xH := bif Nat.blt a 1000 then none else match H.2.2[a - 1000]? with
  | some (.inr (d, fs)) => bif Nat.beq d c && Nat.blt k fs.length then some (H.1, H.2.1, H.2.2.set (a - 1000) (.inr (c, fs.set k v))) else none
  | _ => none
def xal (H : xH) (a : Nat) : Option Int32 := bif Nat.blt a 1000 then none else match H.2.2[a - 1000]? with
  | some (.inl (q, n, _)) => bif Nat.blt q 5 then some (nI n) else none
  | _ => none
def xof (H : xH) (q x : Nat) : Bool := bif Nat.blt x 1000 then Nat.beq q 4 && (Nat.blt x 58 && Nat.beq (x % 2) 0) else match H.2.2[x - 1000]? with
  | some (.inr (d, _)) => Nat.beq q 3 && Nat.beq d 6
  | _ => false
def xas (H : xH) (a : Nat) (i : Int32) (x : Nat) : Option xH := bif Nat.blt a 1000 then none else match H.2.2[a - 1000]? with
  | some (.inl (q, n, rs)) => bif (Nat.blt 2 q && xof H q x) && (Nat.blt rs.length n && decide (i = nI rs.length)) && Nat.blt rs.length 100 then some (H.1, H.2.1, H.2.2.set (a - 1000) (.inl (q, n, rs ++ [x]))) else none
  | _ => none
def xnw (H : xH) (c n : Nat) : Option xH := bif Nat.blt H.1 zNL && Nat.ble (H.2.1 + n) zSL then some (H.1 + 1, H.2.1 + n, H.2.2 ++ [.inr (c, zdf c)]) else none
def xna (H : xH) (q : Nat) (n : Int32) : Option xH := bif (decide (0 ≤ n) && Nat.ble n.toNatClampNeg 100000) && (Nat.blt H.1 zNL && Nat.ble (H.2.1 + n.toNatClampNeg) zSL) then some (H.1 + 1, H.2.1 + n.toNatClampNeg, H.2.2 ++ [.inl (q, n.toNatClampNeg, [])]) else none
def xpt (r3 : Nat) (v : Value) : Bool := match r3, v with
  | 0, .int _ => true
  | 2, .ref _ => true
  | 3, .int x => decide (x = 0)
  | _, _ => false
/-- one step -/
def xstp (E : Nat → List Value → xH → Option xH) (M : zM) (op len r1 r2 r3 pc : Nat) (lv : List (Nat × Value)) (st : List Value) (H : xH) : Option xF := match op with
  | 0 => some (xnx M (pc + len) lv (.int (Int32.ofNat r2) :: st) H)
  | 1 => some (xnx M (pc + len) lv (.int (-(Int32.ofNat r2)) :: st) H)
  | 4 => some (xnx M (pc + len) lv (.ref r2 :: st) H)
  | 5 => match zlk lv r1 with
    | some (.int x) => some (xnx M (pc + len) lv (.int x :: st) H)
    | _ => none
  | 7 => match zlk lv r1 with
    | some (.ref x) => some (xnx M (pc + len) lv (.ref x :: st) H)
    | _ => none
  | 8 => match st with
    | .int x :: st => some (xnx M (pc + len) ((r1, .int x) :: zrm lv r1) st H)
    | _ => none
  | 9 => match st with
    | .ref x :: st => some (xnx M (pc + len) ((r1, .ref x) :: zrm lv r1) st H)
    | _ => none
  | 11 => match zlk lv r1 with
    | some (.int x) => some (xnx M (pc + len) ((r1, .int (x + Int32.ofNat r2)) :: zrm lv r1) st H)
    | _ => none
  | 35 => match st with
    | .ref x :: st => some (xnx M (pc + len) lv (.ref x :: .ref x :: st) H)
    | _ => none
  | 38 => some (xnx M r1 lv st H)
  | 48 => match st with
    | .int y :: .int x :: st => if y ≤ x then some (xnx M r1 lv st H) else some (xnx M (pc + len) lv st H)
    | _ => none
  | 54 => match st with
    | .ref a :: st => match xgr H a r1 r2 with
      | some x => some (xnx M (pc + len) lv (.ref x :: st) H)
      | none => none
    | _ => none
  | 55 => match st with
    | v :: .ref a :: st => bif xpt r3 v then (match xpf H a r1 r2 v with
      | some H1 => some (xnx M (pc + len) lv st H1)
      | none => none) else none
    | _ => none
  | 56 => match st with
    | .ref a :: st => match xal H a with
      | some x => some (xnx M (pc + len) lv (.int x :: st) H)
      | none => none
    | _ => none
  | 64 => match st with
    | .ref x :: .int i :: .ref a :: st => match xas H a i x with
      | some H1 => some (xnx M (pc + len) lv st H1)
      | none => none
    | _ => none
  | 65 => match xnw H r1 r2 with
    | some H1 => some (xnx M (pc + len) lv (.ref (1000 + H.2.2.length) :: st) H1)
    | none => none
  | 67 => match st with
    | .int n :: st => match xna H r1 n with
      | some H1 => some (xnx M (pc + len) lv (.ref (1000 + H.2.2.length) :: st) H1)
      | none => none
    | _ => none
  | 68 => match zpop r2 [] st with
    | some (as, st) => bif Nat.ble (zsz st) 20 && Nat.beq r3 0 then (match E r1 as H with
      | some H1 => some (xnx M (pc + len) lv st H1)
      | none => none) else none
    | none => none
  | 69 => match zpop r2 [] st with
    | some ([.ref _], st) => bif Nat.ble (zsz st) 20 then some (xnx M (pc + len) lv st H) else none
    | _ => none
  | _ => none
section
variable {f : Nat → Option zC} {H H1 : xH}
theorem xh_cell {a : Nat} (h : Nat.blt a 1000 = false) : zcl (xh f H) a = (H.2.2[a - 1000]?).map xzc := by
  show xcl f H.2.2 a = _
  unfold xcl
  rw [if_neg (fun z => by rw [Nat.blt_eq.mpr z] at h; cases h)]
theorem xge {a : Nat} (h : Nat.blt a 1000 = false) : 1000 ≤ a := by
  rcases Nat.lt_or_ge a 1000 with z | z
  · rw [Nat.blt_eq.mpr z] at h; cases h
  · exact z
theorem xh_set {a : Nat} {c : xC} {x : zC} (h : Nat.blt a 1000 = false) (hl : a - 1000 < H.2.2.length) (hx : xzc c = x) : zup (xh f H) a x = xh f (H.1, H.2.1, H.2.2.set (a - 1000) c) := by
  have ha := xge h
  show (H.2.2.length + 1, H.1, H.2.1, va_up (xcl f H.2.2) a (some x)) = ((H.2.2.set (a - 1000) c).length + 1, H.1, H.2.1, xcl f (H.2.2.set (a - 1000) c))
  rw [List.length_set]
  congr 3
  funext b
  by_cases q : b = a
  · subst q
    rw [va_up_at]
    unfold xcl
    rw [if_neg (by omega), List.getElem?_set_self hl]
    show _ = some (xzc c)
    rw [hx]
  · rw [va_up_off _ _ q]
    unfold xcl
    by_cases q2 : b < 1000
    · rw [if_pos q2, if_pos q2]
    · rw [if_neg q2, if_neg q2, List.getElem?_set_ne (by omega)]
theorem xh_app {c : xC} {x : zC} {n m : Nat} (hx : xzc c = x) : ((xh f H).1 + 1, n, m, va_up (xh f H).2.2.2 (999 + (xh f H).1) (some x)) = xh f (n, m, H.2.2 ++ [c]) := by
  show (H.2.2.length + 1 + 1, n, m, va_up (xcl f H.2.2) (999 + (H.2.2.length + 1)) (some x)) = ((H.2.2 ++ [c]).length + 1, n, m, xcl f (H.2.2 ++ [c]))
  rw [List.length_append]
  congr 3
  funext b
  by_cases q : b = 999 + (H.2.2.length + 1)
  · subst q
    rw [va_up_at]
    unfold xcl
    rw [if_neg (by omega), show 999 + (H.2.2.length + 1) - 1000 = H.2.2.length by omega, List.getElem?_concat_length]
    show _ = some (xzc c)
    rw [hx]
  · rw [va_up_off _ _ q]
    unfold xcl
    by_cases q2 : b < 1000
    · rw [if_pos q2, if_pos q2]
    · rw [if_neg q2, if_neg q2]
      rcases Nat.lt_or_ge (b - 1000) H.2.2.length with z | z
      · rw [List.getElem?_append_left z]
      · rw [List.getElem?_eq_none (by omega), List.getElem?_eq_none (by rw [List.length_append]; show H.2.2.length + 1 ≤ _; omega)]
theorem xgr_ok {a c k x : Nat} (h : xgr H a c k = some x) : zgf (xh f H) a c k = some (.ref x) := by
  unfold xgr at h
  cases q : Nat.blt a 1000 with
  | true => rw [q] at h; cases h
  | false =>
    rw [q] at h
    unfold zgf
    rw [xh_cell q]
    change (match H.2.2[a - 1000]? with
      | some (.inr (d, fs)) => bif Nat.beq d c then (match fs[k]? with
        | some (.ref x) => some x
        | _ => none) else none
      | _ => none) = _ at h
    split at h
    · rename_i d fs e
      rw [e]
      show (match Nat.beq d c with
        | true => fs[k]?
        | false => none) = _
      cases w : Nat.beq d c with
      | true =>
        rw [w] at h
        change (match fs[k]? with
        | some (.ref x) => some x
        | _ => none) = _ at h
        split at h
        · rename_i y e2
          cases h
          exact e2
        · cases h
      | false => rw [w] at h; cases h
    · cases h
theorem xpf_ok {a c k : Nat} {v : Value} (h : xpf H a c k v = some H1) : zpf (xh f H) a c k v = some (xh f H1) := by
  unfold xpf at h
  cases q : Nat.blt a 1000 with
  | true => rw [q] at h; cases h
  | false =>
    rw [q] at h
    unfold zpf
    rw [xh_cell q]
    change (match H.2.2[a - 1000]? with
      | some (.inr (d, fs)) => bif Nat.beq d c && Nat.blt k fs.length then some (H.1, H.2.1, H.2.2.set (a - 1000) (.inr (c, fs.set k v))) else none
      | _ => none) = _ at h
    split at h
    · rename_i d fs e
      rw [e]
      cases w : (Nat.beq d c && Nat.blt k fs.length) with
      | true =>
        rw [w] at h
        rw [Bool.and_eq_true] at w
        have w1 := Nat.eq_of_beq_eq_true w.1
        have w2 := Nat.blt_eq.mp w.2
        cases h
        show (if 1000 ≤ a ∧ d = c ∧ k < fs.length then some (zup (xh f H) a (.inr (c, fs.set k v))) else none) = _
        rw [if_pos ⟨xge q, w1, w2⟩]
        congr 1
        exact xh_set q (List.getElem?_eq_some_iff.mp e).1 rfl
      | false => rw [w] at h; cases h
    · cases h
theorem xal_ok {a : Nat} {x : Int32} (h : xal H a = some x) : zal (xh f H) a = some x := by
  unfold xal at h
  cases q : Nat.blt a 1000 with
  | true => rw [q] at h; cases h
  | false =>
    rw [q] at h
    unfold zal
    rw [xh_cell q]
    change (match H.2.2[a - 1000]? with
      | some (.inl (q, n, _)) => bif Nat.blt q 5 then some (nI n) else none
      | _ => none) = _ at h
    split at h
    · rename_i q' n rs e
      rw [e]
      show (if q' < 5 then some (nI n) else none) = _
      cases w : Nat.blt q' 5 with
      | true =>
        rw [w] at h
        rw [if_pos (Nat.blt_eq.mp w)]
        exact h
      | false => rw [w] at h; cases h
    · cases h
theorem xnw_ok {c n : Nat} (h : xnw H c n = some H1) : znw (xh f H) c n = some (xh f H1) := by
  unfold xnw at h
  cases w : (Nat.blt H.1 zNL && Nat.ble (H.2.1 + n) zSL) with
  | true =>
    rw [w] at h
    rw [Bool.and_eq_true] at w
    have w1 := Nat.blt_eq.mp w.1
    have w2 := Nat.le_of_ble_eq_true w.2
    cases h
    unfold znw
    rw [if_neg (by
      intro z
      rcases z with z | z | z
      · exact absurd z (Nat.succ_ne_zero _)
      · exact absurd w1 (Nat.not_lt.mpr z)
      · exact absurd w2 (Nat.not_le.mpr z))]
    congr 1
    exact xh_app rfl
  | false => rw [w] at h; cases h
theorem xna_ok {q : Nat} {n : Int32} (h : xna H q n = some H1) : zna (xh f H) q n = some (xh f H1) := by
  unfold xna at h
  cases w : ((decide (0 ≤ n) && Nat.ble n.toNatClampNeg 100000) && (Nat.blt H.1 zNL && Nat.ble (H.2.1 + n.toNatClampNeg) zSL)) with
  | true =>
    rw [w] at h
    simp only [Bool.and_eq_true] at w
    obtain ⟨⟨w0, w3⟩, w1, w2⟩ := w
    have w0 := of_decide_eq_true w0
    have w3 := Nat.le_of_ble_eq_true w3
    have w1 := Nat.blt_eq.mp w1
    have w2 := Nat.le_of_ble_eq_true w2
    cases h
    unfold zna
    rw [if_neg (by
      intro z
      rcases z with z | z | z | z | z
      · exact absurd z (Int32.not_lt.mpr w0)
      · exact absurd w3 (Nat.not_le.mpr z)
      · exact absurd z (Nat.succ_ne_zero _)
      · exact absurd w1 (Nat.not_lt.mpr z)
      · exact absurd w2 (Nat.not_le.mpr z))]
    congr 1
    refine xh_app ?_
    show xrw q n.toNatClampNeg [] = zar q n.toNatClampNeg
    unfold xrw zar
    congr 3

  | false => rw [w] at h; cases h
end
section
variable {n : Nat} {xs : Nat → Int32} {H H1 : xH}
theorem xof_ok {q x : Nat} (h : xof H q x = true) : zof (xh (hsc n xs) H) q x = true := by
  unfold xof at h
  unfold zof
  cases w : Nat.blt x 1000 with
  | true =>
    rw [w] at h
    have h' : (Nat.beq q 4 && (Nat.blt x 58 && Nat.beq (x % 2) 0)) = true := h
    simp only [Bool.and_eq_true] at h'
    obtain ⟨a, b, c⟩ := h'
    have a := Nat.eq_of_beq_eq_true a
    have b := Nat.blt_eq.mp b
    have c := Nat.eq_of_beq_eq_true c
    have w := Nat.blt_eq.mp w
    have : zcl (xh (hsc n xs) H) x = some (.inr (9, [.ref (x + 1), .int 0])) := by
      show xcl (hsc n xs) H.2.2 x = _
      unfold xcl hsc
      rw [if_pos w, if_neg (by omega), if_pos b, if_pos c]
    rw [this, a]
    show ((4 == 3 && 9 == 6 && decide (1000 ≤ x)) || (4 == 4 && 9 == 9 && decide (x < 1000))) = true
    rw [decide_eq_true w]
    rfl
  | false =>
    rw [w] at h
    rw [xh_cell w]
    change (match H.2.2[x - 1000]? with
      | some (.inr (d, _)) => Nat.beq q 3 && Nat.beq d 6
      | _ => false) = _ at h
    split at h
    · rename_i d fs e
      rw [e]
      rw [Bool.and_eq_true] at h
      have a := Nat.eq_of_beq_eq_true h.1
      have b := Nat.eq_of_beq_eq_true h.2
      subst a; subst b
      show ((3 == 3 && 6 == 6 && decide (1000 ≤ x)) || (3 == 4 && 6 == 9 && decide (x < 1000))) = true
      rw [decide_eq_true (xge w)]
      rfl
    · cases h
theorem xrw_add {q m x : Nat} {rs : List Nat} (hq : 2 < q) : xrw q m (rs ++ [x]) = .inl (q, m, .inr (.inr (.inr (.inr (va_up (fun i => rs[i]?) rs.length (some x)))))) := by
  obtain ⟨k, rfl⟩ : ∃ k, q = k + 3 := ⟨q - 3, by omega⟩
  show (Sum.inl (k + 3, m, Sum.inr (Sum.inr (Sum.inr (Sum.inr (fun i => (rs ++ [x])[i]?))))) : zC) = _
  congr 7
  funext i
  by_cases e : i = rs.length
  · subst e
    rw [va_up_at, List.getElem?_concat_length]
  · rw [va_up_off _ _ e]
    rcases Nat.lt_or_ge i rs.length with z | z
    · rw [List.getElem?_append_left z]
    · rw [List.getElem?_eq_none (l := rs) (by omega), List.getElem?_eq_none (l := rs ++ [x]) (by rw [List.length_append]; show rs.length + 1 ≤ _; omega)]
theorem xas_ok {a x : Nat} {i : Int32} (h : xas H a i x = some H1) : zas (xh (hsc n xs) H) a i x = some (xh (hsc n xs) H1) := by
  unfold xas at h
  cases q : Nat.blt a 1000 with
  | true => rw [q] at h; cases h
  | false =>
    rw [q] at h
    unfold zas
    rw [xh_cell q]
    change (match H.2.2[a - 1000]? with
      | some (.inl (q, n, rs)) => bif (Nat.blt 2 q && xof H q x) && (Nat.blt rs.length n && decide (i = nI rs.length)) && Nat.blt rs.length 100 then some (H.1, H.2.1, H.2.2.set (a - 1000) (.inl (q, n, rs ++ [x]))) else none
      | _ => none) = _ at h
    split at h
    · rename_i q' m rs e
      rw [e]
      cases w : ((Nat.blt 2 q' && xof H q' x) && (Nat.blt rs.length m && decide (i = nI rs.length)) && Nat.blt rs.length 100) with
      | true =>
        rw [w] at h
        simp only [Bool.and_eq_true] at w
        obtain ⟨⟨⟨w1, w2⟩, w3, w4⟩, w5⟩ := w
        have w1 := Nat.blt_eq.mp w1
        have w3 := Nat.blt_eq.mp w3
        have w4 := of_decide_eq_true w4
        have w5 := Nat.blt_eq.mp w5
        cases h
        subst w4
        have w2' := xof_ok (n := n) (xs := xs) w2
        have ew : xzc (.inl (q', m, rs)) = .inl (q', m, .inr (.inr (.inr (.inr (fun i => rs[i]?))))) := by
          obtain ⟨k, rfl⟩ : ∃ k, q' = k + 3 := ⟨q' - 3, by omega⟩
          rfl
        show (match some (xzc (.inl (q', m, rs))) with
          | some (.inl (q, n, .inr (.inr (.inr (.inr f))))) => if a < 1000 ∨ nI rs.length < 0 ∨ n ≤ (nI rs.length).toNatClampNeg ∨ zof (xh _ H) q x = false then none else some (zup (xh _ H) a (.inl (q, n, .inr (.inr (.inr (.inr (va_up f (nI rs.length).toNatClampNeg (some x))))))))
          | _ => none) = _
        rw [ew]
        show (if a < 1000 ∨ nI rs.length < 0 ∨ m ≤ (nI rs.length).toNatClampNeg ∨ zof (xh _ H) q' x = false then none else some (zup (xh _ H) a (.inl (q', m, .inr (.inr (.inr (.inr (va_up (fun i => rs[i]?) (nI rs.length).toNatClampNeg (some x))))))))) = _
        rw [nI_clamp (by omega), if_neg (by
          intro z
          have := xge q
          rcases z with z | z | z | z
          · omega
          · exact absurd z (Int32.not_lt.mpr (nI_pos' (by omega)))
          · omega
          · rw [w2'] at z; cases z)]
        congr 1
        exact xh_set q (List.getElem?_eq_some_iff.mp e).1 (xrw_add w1)
      | false => rw [w] at h; cases h
    · cases h
end
