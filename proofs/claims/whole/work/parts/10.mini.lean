/-! A small machine over which the methods are reckoned: frames of a pc, locals, a stack and a heap of cells by number. Arrays bear a kind (0 int, 1 long, 2 byte, 3 zips, 4 texts), objects the number of their kind in vwCl (9: a text). Numbers below 1000 are what was there before the law began. -/
abbrev zC : Type := (Nat × vp_A) ⊕ (Nat × List Value)
/-- the next number (0: not known any more), cells made, slots made, the cells -/
abbrev zH : Type := Nat × Nat × Nat × (Nat → Option zC)
abbrev zF : Type := Nat × List (Nat × Value) × List Value × zH
/-- a row: what is done (by number), its length, three numbers and a row of numbers that resolve it -/
abbrev zT : Type := Nat × Nat × Nat × Nat × Nat × List Nat
/-- how a method ends: a value or none, or the number of an exception's class -/
abbrev zR : Type := Option Value ⊕ Nat
def zNL : Nat := 600000
def zSL : Nat := 7200000
def zlk : List (Nat × Value) → Nat → Option Value
  | [], _ => none
  | (j, v) :: l, i => match Nat.beq j i with
    | true => some v
    | false => zlk l i
def zc2 (v : Value) : Bool := match v with
  | .long _ => true
  | .double _ => true
  | _ => false
def zrm : List (Nat × Value) → Nat → List (Nat × Value)
  | [], _ => []
  | (j, v) :: l, i => match Nat.beq j i with
    | true => zrm l i
    | false => match zc2 v with
      | true => match Nat.beq (j + 1) i with
        | true => zrm l i
        | false => (j, v) :: zrm l i
      | false => (j, v) :: zrm l i
/-- at a cut the locals that live on, in their order; else all -/
def zkp (o : Option (List Nat)) (lv : List (Nat × Value)) : List (Nat × Value) := match o with
  | none => lv
  | some ks => ks.filterMap (fun i => match zlk lv i with
    | some v => some (i, v)
    | none => none)
def zup (h : zH) (a : Nat) (x : zC) : zH := (h.1, h.2.1, h.2.2.1, va_up h.2.2.2 a (some x))
def zcl (h : zH) (a : Nat) : Option zC := h.2.2.2 a
def zsz : List Value → Nat
  | [] => 0
  | v :: l => (match zc2 v with
    | true => 2
    | false => 1) + zsz l
def zpop : Nat → List Value → List Value → Option (List Value × List Value)
  | 0, acc, st => some (acc, st)
  | _ + 1, _, [] => none
  | n + 1, acc, v :: st => zpop n (v :: acc) st
def zdf : Nat → List Value
  | 0 => [.null, .int 0, .null, .int 0, .null, .null]
  | 1 => [.int 0]
  | 2 => [.null, .int 0, .null, .int 0, .null, .int 0, .null, .null, .int 0, .int 0]
  | 3 => [.null, .int 0, .int 0, .int 0, .int 0, .int 0, .int 0, .null, .int 0]
  | 4 => [.int 0, .int 0, .int 0, .int 0, .null]
  | 5 => [.null]
  | 6 => [.int 0, .int 0, .long 0, .long 0, .int 0, .int 0, .int 0]
  | 7 => [.null, .int 0, .null, .null, .null, .int 0, .null, .null, .null, .null]
  | 8 => [.null, .null, .null, .null, .int 0, .null, .null, .null, .null, .null, .null, .null, .null, .null, .null, .int 0, .int 0, .int 0, .int 0, .int 0, .int 0, .int 0, .int 0, .int 0, .int 0, .int 0, .null, .null, .null, .null, .null, .int 0, .int 0, .int 0, .null, .null, .null, .null, .null, .null, .null, .null, .null, .null, .null, .null, .null, .null, .null, .int 0, .null, .int 0, .int 0, .int 0, .int 0, .null, .null, .null, .null, .null, .null, .null]
  | _ => []
/-- reads and writes of the heap -/
def zgf (h : zH) (a c k : Nat) : Option Value := match zcl h a with
  | some (.inr (d, fs)) => match Nat.beq d c with
    | true => fs[k]?
    | false => none
  | _ => none
def zpf (h : zH) (a c k : Nat) (v : Value) : Option zH := match zcl h a with
  | some (.inr (d, fs)) => if 1000 ≤ a ∧ d = c ∧ k < fs.length then some (zup h a (.inr (c, fs.set k v))) else none
  | _ => none
def zal (h : zH) (a : Nat) : Option Int32 := match zcl h a with
  | some (.inl (q, x)) => if q < 5 then some (nI x.1) else none
  | _ => none
def zia (h : zH) (a : Nat) (i : Int32) : Option Int32 := match zcl h a with
  | some (.inl (0, n, .inl f)) => if i < 0 ∨ n ≤ i.toNatClampNeg then none else some (f i.toNatClampNeg)
  | _ => none
def zba (h : zH) (a : Nat) (i : Int32) : Option Int32 := match zcl h a with
  | some (.inl (2, n, .inl f)) => if i < 0 ∨ n ≤ i.toNatClampNeg then none else some (f i.toNatClampNeg)
  | _ => none
def zla (h : zH) (a : Nat) (i : Int32) : Option Int64 := match zcl h a with
  | some (.inl (1, n, .inr (.inl f))) => if i < 0 ∨ n ≤ i.toNatClampNeg then none else some (f i.toNatClampNeg)
  | _ => none
def zaa (h : zH) (a : Nat) (i : Int32) : Option Nat := match zcl h a with
  | some (.inl (q, n, .inr (.inr (.inr (.inr f))))) => if q < 3 ∨ 4 < q ∨ i < 0 ∨ n ≤ i.toNatClampNeg then none else f i.toNatClampNeg
  | _ => none
def zis (h : zH) (a : Nat) (i x : Int32) : Option zH := match zcl h a with
  | some (.inl (0, n, .inl f)) => if a < 1000 ∨ i < 0 ∨ n ≤ i.toNatClampNeg then none else some (zup h a (.inl (0, n, .inl (upd f i.toNatClampNeg x))))
  | _ => none
def zbs (h : zH) (a : Nat) (i x : Int32) : Option zH := match zcl h a with
  | some (.inl (2, n, .inl f)) => if a < 1000 ∨ i < 0 ∨ n ≤ i.toNatClampNeg then none else some (zup h a (.inl (2, n, .inl (upd f i.toNatClampNeg (vp_nar .byte x)))))
  | _ => none
def zjs (h : zH) (a : Nat) (i : Int32) (x : Int64) : Option zH := match zcl h a with
  | some (.inl (1, n, .inr (.inl f))) => if a < 1000 ∨ i < 0 ∨ n ≤ i.toNatClampNeg then none else some (zup h a (.inl (1, n, .inr (.inl (vp_updL f i.toNatClampNeg x)))))
  | _ => none
/-- an object that may lie in a row of kind q -/
def zof (h : zH) (q x : Nat) : Bool := match zcl h x with
  | some (.inr (d, _)) => (q == 3 && d == 6 && decide (1000 ≤ x)) || (q == 4 && d == 9 && decide (x < 1000))
  | _ => false
def zas (h : zH) (a : Nat) (i : Int32) (x : Nat) : Option zH := match zcl h a with
  | some (.inl (q, n, .inr (.inr (.inr (.inr f))))) => if a < 1000 ∨ i < 0 ∨ n ≤ i.toNatClampNeg ∨ zof h q x = false then none else some (zup h a (.inl (q, n, .inr (.inr (.inr (.inr (va_up f i.toNatClampNeg (some x))))))))
  | _ => none
def znw (h : zH) (c n : Nat) : Option zH := if h.1 = 0 ∨ zNL ≤ h.2.1 ∨ zSL < h.2.2.1 + n then none else some (h.1 + 1, h.2.1 + 1, h.2.2.1 + n, va_up h.2.2.2 (999 + h.1) (some (.inr (c, zdf c))))
def znx (h : zH) : Option zH := if zNL ≤ h.2.1 ∨ zSL < h.2.2.1 + 6 then none else some (0, h.2.1 + 1, h.2.2.1 + 6, h.2.2.2)
def zar (q n : Nat) : zC := .inl (q, n, match q with
  | 0 => .inl (fun _ => 0)
  | 1 => .inr (.inl (fun _ => 0))
  | 2 => .inl (fun _ => 0)
  | _ => .inr (.inr (.inr (.inr (fun _ => none)))))
def zna (h : zH) (q : Nat) (n : Int32) : Option zH := if n < 0 ∨ 100000 < n.toNatClampNeg ∨ h.1 = 0 ∨ zNL ≤ h.2.1 ∨ zSL < h.2.2.1 + n.toNatClampNeg then none else some (h.1 + 1, h.2.1 + 1, h.2.2.1 + n.toNatClampNeg, va_up h.2.2.2 (999 + h.1) (some (zar q n.toNatClampNeg)))
def zci (h : zH) (a : Nat) (sp : Int32) (b : Nat) (dp n : Int32) : Option zH := match zcl h a, zcl h b with
  | some (.inl (0, n0, .inl f)), some (.inl (0, n1, .inl g)) => if a < 1000 ∨ b < 1000 ∨ sp < 0 ∨ dp < 0 ∨ n < 0 ∨ n0 < sp.toNatClampNeg + n.toNatClampNeg ∨ n1 < dp.toNatClampNeg + n.toNatClampNeg then none else some (zup h b (.inl (0, n1, .inl (va_cpy f g sp.toNatClampNeg dp.toNatClampNeg n.toNatClampNeg))))
  | _, _ => none
def zcj (h : zH) (a : Nat) (sp : Int32) (b : Nat) (dp n : Int32) : Option zH := match zcl h a, zcl h b with
  | some (.inl (1, n0, .inr (.inl f))), some (.inl (1, n1, .inr (.inl g))) => if a < 1000 ∨ b < 1000 ∨ sp < 0 ∨ dp < 0 ∨ n < 0 ∨ n0 < sp.toNatClampNeg + n.toNatClampNeg ∨ n1 < dp.toNatClampNeg + n.toNatClampNeg then none else some (zup h b (.inl (1, n1, .inr (.inl (va_cpy f g sp.toNatClampNeg dp.toNatClampNeg n.toNatClampNeg)))))
  | _, _ => none
def zbr (c : Prop) (a b : Prop) : Prop := (c → a) ∧ (¬ c → b)
def zsw (x : Int32) (P : Nat → Prop) (d : Nat) : Nat → List Nat → Prop
  | _, [] => P d
  | lo, t :: ts => zbr (x = nI lo) (P t) (zsw x P d (lo + 1) ts)
def zswn (x : Int32) (P : Nat → Prop) (d : Nat) : Nat → List Nat → Prop
  | _, [] => P d
  | m, t :: ts => zbr (x = -nI m) (P t) (zswn x P d (m - 1) ts)
/-- what a callee hands back, by the kind of its answer: 0 nothing, 1 an int, 2 a long, 3 a reference -/
def zrt (r3 : Nat) (v : Option Value) (k : List Value → Prop) : Prop := match r3 with
  | 0 => v = none ∧ k []
  | 1 => ∃ x : Int32, v = some (.int x) ∧ k [.int x]
  | 2 => ∃ x : Int64, v = some (.long x) ∧ k [.long x]
  | _ => ∃ x : Nat, v = some (.ref x) ∧ k [.ref x]
def zpt (r3 : Nat) (v : Value) : Prop := match r3, v with
  | 0, .int _ => True
  | 1, .long _ => True
  | 2, .ref _ => True
  | 3, .int x => x = 0 ∨ x = 1
  | _, _ => False
/-- what may be returned: by the kind of the method's answer (0 none, 1 int, 2 long, 3 reference, 4 boolean, 5 char, 6 byte) -/
def zfit (k : Nat) (x : Int32) : Prop := match k with
  | 1 => True
  | 4 => x = 0 ∨ x = 1
  | 5 => ∃ n, n < 256 ∧ x = nI n
  | 6 => x = 0
  | _ => False
def zX (Q : zR → zH → Prop) (P : zF → Prop) (pc : Nat) (lv : List (Nat × Value)) (x : Nat) (h : zH) : List (Nat × Nat × Nat × Nat × Nat) → Prop
  | [] => Q (.inr x) h
  | (a, b, e, t, i) :: r => (x = e ∧ a ≤ pc ∧ pc < b → P (t, zrm lv i, [], h)) ∧ (¬ (x = e ∧ a ≤ pc ∧ pc < b) → zX Q P pc lv x h r)
/-- a method: its kind of answer, its rows, its cuts, its own catches -/
abbrev zM : Type := Nat × (Nat → Option zT) × (Nat → Option (List Nat)) × List (Nat × Nat × Nat × Nat × Nat)
def zN {α : Type} (k : Nat) (l r : Nat → Option α) : Nat → Option α := fun pc => bif Nat.ble pc k then l pc else r pc
def zL {α : Type} (p : Nat) (e : α) : Nat → Option α := fun pc => bif Nat.beq pc p then some e else none
/-- one step, by what is done -/
def zo_ipush (E : Nat → List Value → zH → (zR → zH → Prop) → Prop) (M : zM) (Q : zR → zH → Prop) (P : zF → Prop) (pc len r1 r2 r3 : Nat) (ts : List Nat) (lv : List (Nat × Value)) (st : List Value) (h : zH) : Prop := P (pc + len, zkp (M.2.2.1 (pc + len)) lv, .int (Int32.ofNat r2) :: st, h)
def zo_ipushn (E : Nat → List Value → zH → (zR → zH → Prop) → Prop) (M : zM) (Q : zR → zH → Prop) (P : zF → Prop) (pc len r1 r2 r3 : Nat) (ts : List Nat) (lv : List (Nat × Value)) (st : List Value) (h : zH) : Prop := P (pc + len, zkp (M.2.2.1 (pc + len)) lv, .int (-(Int32.ofNat r2)) :: st, h)
def zo_lpush (E : Nat → List Value → zH → (zR → zH → Prop) → Prop) (M : zM) (Q : zR → zH → Prop) (P : zF → Prop) (pc len r1 r2 r3 : Nat) (ts : List Nat) (lv : List (Nat × Value)) (st : List Value) (h : zH) : Prop := P (pc + len, zkp (M.2.2.1 (pc + len)) lv, .long (Int64.ofNat r2) :: st, h)
def zo_lpushn (E : Nat → List Value → zH → (zR → zH → Prop) → Prop) (M : zM) (Q : zR → zH → Prop) (P : zF → Prop) (pc len r1 r2 r3 : Nat) (ts : List Nat) (lv : List (Nat × Value)) (st : List Value) (h : zH) : Prop := P (pc + len, zkp (M.2.2.1 (pc + len)) lv, .long (-(Int64.ofNat r2)) :: st, h)
def zo_rpush (E : Nat → List Value → zH → (zR → zH → Prop) → Prop) (M : zM) (Q : zR → zH → Prop) (P : zF → Prop) (pc len r1 r2 r3 : Nat) (ts : List Nat) (lv : List (Nat × Value)) (st : List Value) (h : zH) : Prop := P (pc + len, zkp (M.2.2.1 (pc + len)) lv, .ref r2 :: st, h)
def zo_iload (E : Nat → List Value → zH → (zR → zH → Prop) → Prop) (M : zM) (Q : zR → zH → Prop) (P : zF → Prop) (pc len r1 r2 r3 : Nat) (ts : List Nat) (lv : List (Nat × Value)) (st : List Value) (h : zH) : Prop := match zlk lv r1 with
  | some (.int x) => P (pc + len, zkp (M.2.2.1 (pc + len)) lv, .int x :: st, h)
  | _ => False
def zo_lload (E : Nat → List Value → zH → (zR → zH → Prop) → Prop) (M : zM) (Q : zR → zH → Prop) (P : zF → Prop) (pc len r1 r2 r3 : Nat) (ts : List Nat) (lv : List (Nat × Value)) (st : List Value) (h : zH) : Prop := match zlk lv r1 with
  | some (.long x) => P (pc + len, zkp (M.2.2.1 (pc + len)) lv, .long x :: st, h)
  | _ => False
def zo_aload (E : Nat → List Value → zH → (zR → zH → Prop) → Prop) (M : zM) (Q : zR → zH → Prop) (P : zF → Prop) (pc len r1 r2 r3 : Nat) (ts : List Nat) (lv : List (Nat × Value)) (st : List Value) (h : zH) : Prop := match zlk lv r1 with
  | some (.ref x) => P (pc + len, zkp (M.2.2.1 (pc + len)) lv, .ref x :: st, h)
  | _ => False
def zo_istore (E : Nat → List Value → zH → (zR → zH → Prop) → Prop) (M : zM) (Q : zR → zH → Prop) (P : zF → Prop) (pc len r1 r2 r3 : Nat) (ts : List Nat) (lv : List (Nat × Value)) (st : List Value) (h : zH) : Prop := match st with
  | .int x :: st => P (pc + len, zkp (M.2.2.1 (pc + len)) ((r1, .int x) :: zrm lv r1), st, h)
  | _ => False
def zo_astore (E : Nat → List Value → zH → (zR → zH → Prop) → Prop) (M : zM) (Q : zR → zH → Prop) (P : zF → Prop) (pc len r1 r2 r3 : Nat) (ts : List Nat) (lv : List (Nat × Value)) (st : List Value) (h : zH) : Prop := match st with
  | .ref x :: st => P (pc + len, zkp (M.2.2.1 (pc + len)) ((r1, .ref x) :: zrm lv r1), st, h)
  | _ => False
def zo_lstore (E : Nat → List Value → zH → (zR → zH → Prop) → Prop) (M : zM) (Q : zR → zH → Prop) (P : zF → Prop) (pc len r1 r2 r3 : Nat) (ts : List Nat) (lv : List (Nat × Value)) (st : List Value) (h : zH) : Prop := match st with
  | .long x :: st => P (pc + len, zkp (M.2.2.1 (pc + len)) ((r1, .long x) :: zrm (zrm lv r1) (r1 + 1)), st, h)
  | _ => False
def zo_iinc (E : Nat → List Value → zH → (zR → zH → Prop) → Prop) (M : zM) (Q : zR → zH → Prop) (P : zF → Prop) (pc len r1 r2 r3 : Nat) (ts : List Nat) (lv : List (Nat × Value)) (st : List Value) (h : zH) : Prop := match zlk lv r1 with
  | some (.int x) => P (pc + len, zkp (M.2.2.1 (pc + len)) ((r1, .int (x + Int32.ofNat r2)) :: zrm lv r1), st, h)
  | _ => False
def zo_iincn (E : Nat → List Value → zH → (zR → zH → Prop) → Prop) (M : zM) (Q : zR → zH → Prop) (P : zF → Prop) (pc len r1 r2 r3 : Nat) (ts : List Nat) (lv : List (Nat × Value)) (st : List Value) (h : zH) : Prop := match zlk lv r1 with
  | some (.int x) => P (pc + len, zkp (M.2.2.1 (pc + len)) ((r1, .int (x + -(Int32.ofNat r2))) :: zrm lv r1), st, h)
  | _ => False
def zo_iadd (E : Nat → List Value → zH → (zR → zH → Prop) → Prop) (M : zM) (Q : zR → zH → Prop) (P : zF → Prop) (pc len r1 r2 r3 : Nat) (ts : List Nat) (lv : List (Nat × Value)) (st : List Value) (h : zH) : Prop := match st with
  | .int y :: .int x :: st => P (pc + len, zkp (M.2.2.1 (pc + len)) lv, .int (x + y) :: st, h)
  | _ => False
def zo_isub (E : Nat → List Value → zH → (zR → zH → Prop) → Prop) (M : zM) (Q : zR → zH → Prop) (P : zF → Prop) (pc len r1 r2 r3 : Nat) (ts : List Nat) (lv : List (Nat × Value)) (st : List Value) (h : zH) : Prop := match st with
  | .int y :: .int x :: st => P (pc + len, zkp (M.2.2.1 (pc + len)) lv, .int (x - y) :: st, h)
  | _ => False
def zo_imul (E : Nat → List Value → zH → (zR → zH → Prop) → Prop) (M : zM) (Q : zR → zH → Prop) (P : zF → Prop) (pc len r1 r2 r3 : Nat) (ts : List Nat) (lv : List (Nat × Value)) (st : List Value) (h : zH) : Prop := match st with
  | .int y :: .int x :: st => P (pc + len, zkp (M.2.2.1 (pc + len)) lv, .int (x * y) :: st, h)
  | _ => False
def zo_iand (E : Nat → List Value → zH → (zR → zH → Prop) → Prop) (M : zM) (Q : zR → zH → Prop) (P : zF → Prop) (pc len r1 r2 r3 : Nat) (ts : List Nat) (lv : List (Nat × Value)) (st : List Value) (h : zH) : Prop := match st with
  | .int y :: .int x :: st => P (pc + len, zkp (M.2.2.1 (pc + len)) lv, .int (x &&& y) :: st, h)
  | _ => False
def zo_ior (E : Nat → List Value → zH → (zR → zH → Prop) → Prop) (M : zM) (Q : zR → zH → Prop) (P : zF → Prop) (pc len r1 r2 r3 : Nat) (ts : List Nat) (lv : List (Nat × Value)) (st : List Value) (h : zH) : Prop := match st with
  | .int y :: .int x :: st => P (pc + len, zkp (M.2.2.1 (pc + len)) lv, .int (x ||| y) :: st, h)
  | _ => False
def zo_ixor (E : Nat → List Value → zH → (zR → zH → Prop) → Prop) (M : zM) (Q : zR → zH → Prop) (P : zF → Prop) (pc len r1 r2 r3 : Nat) (ts : List Nat) (lv : List (Nat × Value)) (st : List Value) (h : zH) : Prop := match st with
  | .int y :: .int x :: st => P (pc + len, zkp (M.2.2.1 (pc + len)) lv, .int (x ^^^ y) :: st, h)
  | _ => False
def zo_ishl (E : Nat → List Value → zH → (zR → zH → Prop) → Prop) (M : zM) (Q : zR → zH → Prop) (P : zF → Prop) (pc len r1 r2 r3 : Nat) (ts : List Nat) (lv : List (Nat × Value)) (st : List Value) (h : zH) : Prop := match st with
  | .int y :: .int x :: st => P (pc + len, zkp (M.2.2.1 (pc + len)) lv, .int (x <<< (y &&& 31)) :: st, h)
  | _ => False
def zo_ishr (E : Nat → List Value → zH → (zR → zH → Prop) → Prop) (M : zM) (Q : zR → zH → Prop) (P : zF → Prop) (pc len r1 r2 r3 : Nat) (ts : List Nat) (lv : List (Nat × Value)) (st : List Value) (h : zH) : Prop := match st with
  | .int y :: .int x :: st => P (pc + len, zkp (M.2.2.1 (pc + len)) lv, .int (x >>> (y &&& 31)) :: st, h)
  | _ => False
def zo_iushr (E : Nat → List Value → zH → (zR → zH → Prop) → Prop) (M : zM) (Q : zR → zH → Prop) (P : zF → Prop) (pc len r1 r2 r3 : Nat) (ts : List Nat) (lv : List (Nat × Value)) (st : List Value) (h : zH) : Prop := match st with
  | .int y :: .int x :: st => P (pc + len, zkp (M.2.2.1 (pc + len)) lv, .int (x.toUInt32 >>> (y.toUInt32 &&& Int32.toUInt32 31)).toInt32 :: st, h)
  | _ => False
def zo_idiv (E : Nat → List Value → zH → (zR → zH → Prop) → Prop) (M : zM) (Q : zR → zH → Prop) (P : zF → Prop) (pc len r1 r2 r3 : Nat) (ts : List Nat) (lv : List (Nat × Value)) (st : List Value) (h : zH) : Prop := match st with
  | .int y :: .int x :: st => ¬ y = 0 ∧ P (pc + len, zkp (M.2.2.1 (pc + len)) lv, .int (x / y) :: st, h)
  | _ => False
def zo_irem (E : Nat → List Value → zH → (zR → zH → Prop) → Prop) (M : zM) (Q : zR → zH → Prop) (P : zF → Prop) (pc len r1 r2 r3 : Nat) (ts : List Nat) (lv : List (Nat × Value)) (st : List Value) (h : zH) : Prop := match st with
  | .int y :: .int x :: st => ¬ y = 0 ∧ P (pc + len, zkp (M.2.2.1 (pc + len)) lv, .int (x - x / y * y) :: st, h)
  | _ => False
def zo_land (E : Nat → List Value → zH → (zR → zH → Prop) → Prop) (M : zM) (Q : zR → zH → Prop) (P : zF → Prop) (pc len r1 r2 r3 : Nat) (ts : List Nat) (lv : List (Nat × Value)) (st : List Value) (h : zH) : Prop := match st with
  | .long y :: .long x :: st => P (pc + len, zkp (M.2.2.1 (pc + len)) lv, .long (x &&& y) :: st, h)
  | _ => False
def zo_lor (E : Nat → List Value → zH → (zR → zH → Prop) → Prop) (M : zM) (Q : zR → zH → Prop) (P : zF → Prop) (pc len r1 r2 r3 : Nat) (ts : List Nat) (lv : List (Nat × Value)) (st : List Value) (h : zH) : Prop := match st with
  | .long y :: .long x :: st => P (pc + len, zkp (M.2.2.1 (pc + len)) lv, .long (x ||| y) :: st, h)
  | _ => False
def zo_lxor (E : Nat → List Value → zH → (zR → zH → Prop) → Prop) (M : zM) (Q : zR → zH → Prop) (P : zF → Prop) (pc len r1 r2 r3 : Nat) (ts : List Nat) (lv : List (Nat × Value)) (st : List Value) (h : zH) : Prop := match st with
  | .long y :: .long x :: st => P (pc + len, zkp (M.2.2.1 (pc + len)) lv, .long (x ^^^ y) :: st, h)
  | _ => False
def zo_lshl (E : Nat → List Value → zH → (zR → zH → Prop) → Prop) (M : zM) (Q : zR → zH → Prop) (P : zF → Prop) (pc len r1 r2 r3 : Nat) (ts : List Nat) (lv : List (Nat × Value)) (st : List Value) (h : zH) : Prop := match st with
  | .int y :: .long x :: st => P (pc + len, zkp (M.2.2.1 (pc + len)) lv, .long (x <<< (y.toInt64 &&& 63)) :: st, h)
  | _ => False
def zo_lushr (E : Nat → List Value → zH → (zR → zH → Prop) → Prop) (M : zM) (Q : zR → zH → Prop) (P : zF → Prop) (pc len r1 r2 r3 : Nat) (ts : List Nat) (lv : List (Nat × Value)) (st : List Value) (h : zH) : Prop := match st with
  | .int y :: .long x :: st => P (pc + len, zkp (M.2.2.1 (pc + len)) lv, .long (x.toUInt64 >>> (y.toInt64.toUInt64 &&& Int64.toUInt64 63)).toInt64 :: st, h)
  | _ => False
def zo_lcmp (E : Nat → List Value → zH → (zR → zH → Prop) → Prop) (M : zM) (Q : zR → zH → Prop) (P : zF → Prop) (pc len r1 r2 r3 : Nat) (ts : List Nat) (lv : List (Nat × Value)) (st : List Value) (h : zH) : Prop := match st with
  | .long y :: .long x :: st => P (pc + len, zkp (M.2.2.1 (pc + len)) lv, .int (lg_cmp x y) :: st, h)
  | _ => False
def zo_i2l (E : Nat → List Value → zH → (zR → zH → Prop) → Prop) (M : zM) (Q : zR → zH → Prop) (P : zF → Prop) (pc len r1 r2 r3 : Nat) (ts : List Nat) (lv : List (Nat × Value)) (st : List Value) (h : zH) : Prop := match st with
  | .int x :: st => P (pc + len, zkp (M.2.2.1 (pc + len)) lv, .long x.toInt64 :: st, h)
  | _ => False
def zo_i2b (E : Nat → List Value → zH → (zR → zH → Prop) → Prop) (M : zM) (Q : zR → zH → Prop) (P : zF → Prop) (pc len r1 r2 r3 : Nat) (ts : List Nat) (lv : List (Nat × Value)) (st : List Value) (h : zH) : Prop := match st with
  | .int x :: st => P (pc + len, zkp (M.2.2.1 (pc + len)) lv, .int x.toInt8.toInt32 :: st, h)
  | _ => False
def zo_i2c (E : Nat → List Value → zH → (zR → zH → Prop) → Prop) (M : zM) (Q : zR → zH → Prop) (P : zF → Prop) (pc len r1 r2 r3 : Nat) (ts : List Nat) (lv : List (Nat × Value)) (st : List Value) (h : zH) : Prop := match st with
  | .int x :: st => P (pc + len, zkp (M.2.2.1 (pc + len)) lv, .int (x.toUInt32 % 65536).toInt32 :: st, h)
  | _ => False
def zo_ineg (E : Nat → List Value → zH → (zR → zH → Prop) → Prop) (M : zM) (Q : zR → zH → Prop) (P : zF → Prop) (pc len r1 r2 r3 : Nat) (ts : List Nat) (lv : List (Nat × Value)) (st : List Value) (h : zH) : Prop := match st with
  | .int x :: st => P (pc + len, zkp (M.2.2.1 (pc + len)) lv, .int (-x) :: st, h)
  | _ => False
def zo_l2i (E : Nat → List Value → zH → (zR → zH → Prop) → Prop) (M : zM) (Q : zR → zH → Prop) (P : zF → Prop) (pc len r1 r2 r3 : Nat) (ts : List Nat) (lv : List (Nat × Value)) (st : List Value) (h : zH) : Prop := match st with
  | .long x :: st => P (pc + len, zkp (M.2.2.1 (pc + len)) lv, .int x.toInt32 :: st, h)
  | _ => False
def zo_dup (E : Nat → List Value → zH → (zR → zH → Prop) → Prop) (M : zM) (Q : zR → zH → Prop) (P : zF → Prop) (pc len r1 r2 r3 : Nat) (ts : List Nat) (lv : List (Nat × Value)) (st : List Value) (h : zH) : Prop := match st with
  | v :: st => zc2 v = false ∧ P (pc + len, zkp (M.2.2.1 (pc + len)) lv, v :: v :: st, h)
  | _ => False
def zo_dup2 (E : Nat → List Value → zH → (zR → zH → Prop) → Prop) (M : zM) (Q : zR → zH → Prop) (P : zF → Prop) (pc len r1 r2 r3 : Nat) (ts : List Nat) (lv : List (Nat × Value)) (st : List Value) (h : zH) : Prop := match st with
  | v :: w :: st => zc2 v = false ∧ zc2 w = false ∧ P (pc + len, zkp (M.2.2.1 (pc + len)) lv, v :: w :: v :: w :: st, h)
  | _ => False
def zo_pop (E : Nat → List Value → zH → (zR → zH → Prop) → Prop) (M : zM) (Q : zR → zH → Prop) (P : zF → Prop) (pc len r1 r2 r3 : Nat) (ts : List Nat) (lv : List (Nat × Value)) (st : List Value) (h : zH) : Prop := match st with
  | v :: st => zc2 v = false ∧ P (pc + len, zkp (M.2.2.1 (pc + len)) lv, st, h)
  | _ => False
def zo_goto (E : Nat → List Value → zH → (zR → zH → Prop) → Prop) (M : zM) (Q : zR → zH → Prop) (P : zF → Prop) (pc len r1 r2 r3 : Nat) (ts : List Nat) (lv : List (Nat × Value)) (st : List Value) (h : zH) : Prop := P (r1, zkp (M.2.2.1 (r1)) lv, st, h)
def zo_ifeq (E : Nat → List Value → zH → (zR → zH → Prop) → Prop) (M : zM) (Q : zR → zH → Prop) (P : zF → Prop) (pc len r1 r2 r3 : Nat) (ts : List Nat) (lv : List (Nat × Value)) (st : List Value) (h : zH) : Prop := match st with
  | .int x :: st => zbr (x = 0) (P (r1, zkp (M.2.2.1 (r1)) lv, st, h)) (P (pc + len, zkp (M.2.2.1 (pc + len)) lv, st, h))
  | _ => False
def zo_ifne (E : Nat → List Value → zH → (zR → zH → Prop) → Prop) (M : zM) (Q : zR → zH → Prop) (P : zF → Prop) (pc len r1 r2 r3 : Nat) (ts : List Nat) (lv : List (Nat × Value)) (st : List Value) (h : zH) : Prop := match st with
  | .int x :: st => zbr (x = 0) (P (pc + len, zkp (M.2.2.1 (pc + len)) lv, st, h)) (P (r1, zkp (M.2.2.1 (r1)) lv, st, h))
  | _ => False
def zo_iflt (E : Nat → List Value → zH → (zR → zH → Prop) → Prop) (M : zM) (Q : zR → zH → Prop) (P : zF → Prop) (pc len r1 r2 r3 : Nat) (ts : List Nat) (lv : List (Nat × Value)) (st : List Value) (h : zH) : Prop := match st with
  | .int x :: st => zbr (x < 0) (P (r1, zkp (M.2.2.1 (r1)) lv, st, h)) (P (pc + len, zkp (M.2.2.1 (pc + len)) lv, st, h))
  | _ => False
def zo_ifge (E : Nat → List Value → zH → (zR → zH → Prop) → Prop) (M : zM) (Q : zR → zH → Prop) (P : zF → Prop) (pc len r1 r2 r3 : Nat) (ts : List Nat) (lv : List (Nat × Value)) (st : List Value) (h : zH) : Prop := match st with
  | .int x :: st => zbr (0 ≤ x) (P (r1, zkp (M.2.2.1 (r1)) lv, st, h)) (P (pc + len, zkp (M.2.2.1 (pc + len)) lv, st, h))
  | _ => False
def zo_ifgt (E : Nat → List Value → zH → (zR → zH → Prop) → Prop) (M : zM) (Q : zR → zH → Prop) (P : zF → Prop) (pc len r1 r2 r3 : Nat) (ts : List Nat) (lv : List (Nat × Value)) (st : List Value) (h : zH) : Prop := match st with
  | .int x :: st => zbr (0 < x) (P (r1, zkp (M.2.2.1 (r1)) lv, st, h)) (P (pc + len, zkp (M.2.2.1 (pc + len)) lv, st, h))
  | _ => False
def zo_ifle (E : Nat → List Value → zH → (zR → zH → Prop) → Prop) (M : zM) (Q : zR → zH → Prop) (P : zF → Prop) (pc len r1 r2 r3 : Nat) (ts : List Nat) (lv : List (Nat × Value)) (st : List Value) (h : zH) : Prop := match st with
  | .int x :: st => zbr (x ≤ 0) (P (r1, zkp (M.2.2.1 (r1)) lv, st, h)) (P (pc + len, zkp (M.2.2.1 (pc + len)) lv, st, h))
  | _ => False
def zo_iceq (E : Nat → List Value → zH → (zR → zH → Prop) → Prop) (M : zM) (Q : zR → zH → Prop) (P : zF → Prop) (pc len r1 r2 r3 : Nat) (ts : List Nat) (lv : List (Nat × Value)) (st : List Value) (h : zH) : Prop := match st with
  | .int y :: .int x :: st => zbr (x = y) (P (r1, zkp (M.2.2.1 (r1)) lv, st, h)) (P (pc + len, zkp (M.2.2.1 (pc + len)) lv, st, h))
  | _ => False
def zo_icne (E : Nat → List Value → zH → (zR → zH → Prop) → Prop) (M : zM) (Q : zR → zH → Prop) (P : zF → Prop) (pc len r1 r2 r3 : Nat) (ts : List Nat) (lv : List (Nat × Value)) (st : List Value) (h : zH) : Prop := match st with
  | .int y :: .int x :: st => zbr (x = y) (P (pc + len, zkp (M.2.2.1 (pc + len)) lv, st, h)) (P (r1, zkp (M.2.2.1 (r1)) lv, st, h))
  | _ => False
def zo_iclt (E : Nat → List Value → zH → (zR → zH → Prop) → Prop) (M : zM) (Q : zR → zH → Prop) (P : zF → Prop) (pc len r1 r2 r3 : Nat) (ts : List Nat) (lv : List (Nat × Value)) (st : List Value) (h : zH) : Prop := match st with
  | .int y :: .int x :: st => zbr (x < y) (P (r1, zkp (M.2.2.1 (r1)) lv, st, h)) (P (pc + len, zkp (M.2.2.1 (pc + len)) lv, st, h))
  | _ => False
def zo_icge (E : Nat → List Value → zH → (zR → zH → Prop) → Prop) (M : zM) (Q : zR → zH → Prop) (P : zF → Prop) (pc len r1 r2 r3 : Nat) (ts : List Nat) (lv : List (Nat × Value)) (st : List Value) (h : zH) : Prop := match st with
  | .int y :: .int x :: st => zbr (y ≤ x) (P (r1, zkp (M.2.2.1 (r1)) lv, st, h)) (P (pc + len, zkp (M.2.2.1 (pc + len)) lv, st, h))
  | _ => False
def zo_icgt (E : Nat → List Value → zH → (zR → zH → Prop) → Prop) (M : zM) (Q : zR → zH → Prop) (P : zF → Prop) (pc len r1 r2 r3 : Nat) (ts : List Nat) (lv : List (Nat × Value)) (st : List Value) (h : zH) : Prop := match st with
  | .int y :: .int x :: st => zbr (y < x) (P (r1, zkp (M.2.2.1 (r1)) lv, st, h)) (P (pc + len, zkp (M.2.2.1 (pc + len)) lv, st, h))
  | _ => False
def zo_icle (E : Nat → List Value → zH → (zR → zH → Prop) → Prop) (M : zM) (Q : zR → zH → Prop) (P : zF → Prop) (pc len r1 r2 r3 : Nat) (ts : List Nat) (lv : List (Nat × Value)) (st : List Value) (h : zH) : Prop := match st with
  | .int y :: .int x :: st => zbr (x ≤ y) (P (r1, zkp (M.2.2.1 (r1)) lv, st, h)) (P (pc + len, zkp (M.2.2.1 (pc + len)) lv, st, h))
  | _ => False
def zo_switch (E : Nat → List Value → zH → (zR → zH → Prop) → Prop) (M : zM) (Q : zR → zH → Prop) (P : zF → Prop) (pc len r1 r2 r3 : Nat) (ts : List Nat) (lv : List (Nat × Value)) (st : List Value) (h : zH) : Prop := match st with
  | .int x :: st => match r3 with
    | 0 => zsw x (fun t => P (t, zkp (M.2.2.1 (t)) lv, st, h)) r1 r2 ts
    | _ => zswn x (fun t => P (t, zkp (M.2.2.1 (t)) lv, st, h)) r1 r2 ts
  | _ => False
def zo_getI (E : Nat → List Value → zH → (zR → zH → Prop) → Prop) (M : zM) (Q : zR → zH → Prop) (P : zF → Prop) (pc len r1 r2 r3 : Nat) (ts : List Nat) (lv : List (Nat × Value)) (st : List Value) (h : zH) : Prop := match st with
  | .ref a :: st => ∃ x : Int32, zgf h a r1 r2 = some (.int x) ∧ P (pc + len, zkp (M.2.2.1 (pc + len)) lv, .int x :: st, h)
  | _ => False
def zo_getJ (E : Nat → List Value → zH → (zR → zH → Prop) → Prop) (M : zM) (Q : zR → zH → Prop) (P : zF → Prop) (pc len r1 r2 r3 : Nat) (ts : List Nat) (lv : List (Nat × Value)) (st : List Value) (h : zH) : Prop := match st with
  | .ref a :: st => ∃ x : Int64, zgf h a r1 r2 = some (.long x) ∧ P (pc + len, zkp (M.2.2.1 (pc + len)) lv, .long x :: st, h)
  | _ => False
def zo_getR (E : Nat → List Value → zH → (zR → zH → Prop) → Prop) (M : zM) (Q : zR → zH → Prop) (P : zF → Prop) (pc len r1 r2 r3 : Nat) (ts : List Nat) (lv : List (Nat × Value)) (st : List Value) (h : zH) : Prop := match st with
  | .ref a :: st => ∃ x : Nat, zgf h a r1 r2 = some (.ref x) ∧ P (pc + len, zkp (M.2.2.1 (pc + len)) lv, .ref x :: st, h)
  | _ => False
def zo_put (E : Nat → List Value → zH → (zR → zH → Prop) → Prop) (M : zM) (Q : zR → zH → Prop) (P : zF → Prop) (pc len r1 r2 r3 : Nat) (ts : List Nat) (lv : List (Nat × Value)) (st : List Value) (h : zH) : Prop := match st with
  | v :: .ref a :: st => zpt r3 v ∧ ∃ h1, zpf h a r1 r2 v = some h1 ∧ P (pc + len, zkp (M.2.2.1 (pc + len)) lv, st, h1)
  | _ => False
def zo_alen (E : Nat → List Value → zH → (zR → zH → Prop) → Prop) (M : zM) (Q : zR → zH → Prop) (P : zF → Prop) (pc len r1 r2 r3 : Nat) (ts : List Nat) (lv : List (Nat × Value)) (st : List Value) (h : zH) : Prop := match st with
  | .ref a :: st => ∃ x, zal h a = some x ∧ P (pc + len, zkp (M.2.2.1 (pc + len)) lv, .int x :: st, h)
  | _ => False
def zo_iald (E : Nat → List Value → zH → (zR → zH → Prop) → Prop) (M : zM) (Q : zR → zH → Prop) (P : zF → Prop) (pc len r1 r2 r3 : Nat) (ts : List Nat) (lv : List (Nat × Value)) (st : List Value) (h : zH) : Prop := match st with
  | .int i :: .ref a :: st => ∃ x, zia h a i = some x ∧ P (pc + len, zkp (M.2.2.1 (pc + len)) lv, .int x :: st, h)
  | _ => False
def zo_bald (E : Nat → List Value → zH → (zR → zH → Prop) → Prop) (M : zM) (Q : zR → zH → Prop) (P : zF → Prop) (pc len r1 r2 r3 : Nat) (ts : List Nat) (lv : List (Nat × Value)) (st : List Value) (h : zH) : Prop := match st with
  | .int i :: .ref a :: st => ∃ x, zba h a i = some x ∧ P (pc + len, zkp (M.2.2.1 (pc + len)) lv, .int x :: st, h)
  | _ => False
def zo_lald (E : Nat → List Value → zH → (zR → zH → Prop) → Prop) (M : zM) (Q : zR → zH → Prop) (P : zF → Prop) (pc len r1 r2 r3 : Nat) (ts : List Nat) (lv : List (Nat × Value)) (st : List Value) (h : zH) : Prop := match st with
  | .int i :: .ref a :: st => ∃ x, zla h a i = some x ∧ P (pc + len, zkp (M.2.2.1 (pc + len)) lv, .long x :: st, h)
  | _ => False
def zo_aald (E : Nat → List Value → zH → (zR → zH → Prop) → Prop) (M : zM) (Q : zR → zH → Prop) (P : zF → Prop) (pc len r1 r2 r3 : Nat) (ts : List Nat) (lv : List (Nat × Value)) (st : List Value) (h : zH) : Prop := match st with
  | .int i :: .ref a :: st => ∃ x, zaa h a i = some x ∧ P (pc + len, zkp (M.2.2.1 (pc + len)) lv, .ref x :: st, h)
  | _ => False
def zo_iast (E : Nat → List Value → zH → (zR → zH → Prop) → Prop) (M : zM) (Q : zR → zH → Prop) (P : zF → Prop) (pc len r1 r2 r3 : Nat) (ts : List Nat) (lv : List (Nat × Value)) (st : List Value) (h : zH) : Prop := match st with
  | .int x :: .int i :: .ref a :: st => ∃ h1, zis h a i x = some h1 ∧ P (pc + len, zkp (M.2.2.1 (pc + len)) lv, st, h1)
  | _ => False
def zo_bast (E : Nat → List Value → zH → (zR → zH → Prop) → Prop) (M : zM) (Q : zR → zH → Prop) (P : zF → Prop) (pc len r1 r2 r3 : Nat) (ts : List Nat) (lv : List (Nat × Value)) (st : List Value) (h : zH) : Prop := match st with
  | .int x :: .int i :: .ref a :: st => ∃ h1, zbs h a i x = some h1 ∧ P (pc + len, zkp (M.2.2.1 (pc + len)) lv, st, h1)
  | _ => False
def zo_last (E : Nat → List Value → zH → (zR → zH → Prop) → Prop) (M : zM) (Q : zR → zH → Prop) (P : zF → Prop) (pc len r1 r2 r3 : Nat) (ts : List Nat) (lv : List (Nat × Value)) (st : List Value) (h : zH) : Prop := match st with
  | .long x :: .int i :: .ref a :: st => ∃ h1, zjs h a i x = some h1 ∧ P (pc + len, zkp (M.2.2.1 (pc + len)) lv, st, h1)
  | _ => False
def zo_aast (E : Nat → List Value → zH → (zR → zH → Prop) → Prop) (M : zM) (Q : zR → zH → Prop) (P : zF → Prop) (pc len r1 r2 r3 : Nat) (ts : List Nat) (lv : List (Nat × Value)) (st : List Value) (h : zH) : Prop := match st with
  | .ref x :: .int i :: .ref a :: st => ∃ h1, zas h a i x = some h1 ∧ P (pc + len, zkp (M.2.2.1 (pc + len)) lv, st, h1)
  | _ => False
def zo_new (E : Nat → List Value → zH → (zR → zH → Prop) → Prop) (M : zM) (Q : zR → zH → Prop) (P : zF → Prop) (pc len r1 r2 r3 : Nat) (ts : List Nat) (lv : List (Nat × Value)) (st : List Value) (h : zH) : Prop := ∃ h1, znw h r1 r2 = some h1 ∧ P (pc + len, zkp (M.2.2.1 (pc + len)) lv, .ref (999 + h.1) :: st, h1)
def zo_throw (E : Nat → List Value → zH → (zR → zH → Prop) → Prop) (M : zM) (Q : zR → zH → Prop) (P : zF → Prop) (pc len r1 r2 r3 : Nat) (ts : List Nat) (lv : List (Nat × Value)) (st : List Value) (h : zH) : Prop := Nat.ble (zsz st) 20 = true ∧ ∃ h1, znx h = some h1 ∧ Q (.inr r1) h1
def zo_newa (E : Nat → List Value → zH → (zR → zH → Prop) → Prop) (M : zM) (Q : zR → zH → Prop) (P : zF → Prop) (pc len r1 r2 r3 : Nat) (ts : List Nat) (lv : List (Nat × Value)) (st : List Value) (h : zH) : Prop := match st with
  | .int n :: st => ∃ h1, zna h r1 n = some h1 ∧ P (pc + len, zkp (M.2.2.1 (pc + len)) lv, .ref (999 + h.1) :: st, h1)
  | _ => False
def zo_call (E : Nat → List Value → zH → (zR → zH → Prop) → Prop) (M : zM) (Q : zR → zH → Prop) (P : zF → Prop) (pc len r1 r2 r3 : Nat) (ts : List Nat) (lv : List (Nat × Value)) (st : List Value) (h : zH) : Prop := match zpop r2 [] st with
  | some (as, st) => Nat.ble (zsz st) 20 = true ∧ E r1 as h (fun r h => match r with
    | .inl v => zrt r3 v (fun vs => P (pc + len, zkp (M.2.2.1 (pc + len)) lv, vs ++ st, h))
    | .inr x => zX Q (fun f => P (f.1, zkp (M.2.2.1 f.1) f.2.1, f.2.2.1, f.2.2.2)) pc lv x h M.2.2.2)
  | none => False
def zo_nop (E : Nat → List Value → zH → (zR → zH → Prop) → Prop) (M : zM) (Q : zR → zH → Prop) (P : zF → Prop) (pc len r1 r2 r3 : Nat) (ts : List Nat) (lv : List (Nat × Value)) (st : List Value) (h : zH) : Prop := match zpop r2 [] st with
  | some (as, st) => (∃ a, as = [.ref a]) ∧ Nat.ble (zsz st) 20 = true ∧ P (pc + len, zkp (M.2.2.1 (pc + len)) lv, st, h)
  | none => False
def zo_cpi (E : Nat → List Value → zH → (zR → zH → Prop) → Prop) (M : zM) (Q : zR → zH → Prop) (P : zF → Prop) (pc len r1 r2 r3 : Nat) (ts : List Nat) (lv : List (Nat × Value)) (st : List Value) (h : zH) : Prop := match st with
  | .int n :: .int dp :: .ref b :: .int sp :: .ref a :: st => Nat.ble (zsz st) 20 = true ∧ ∃ h1, zci h a sp b dp n = some h1 ∧ P (pc + len, zkp (M.2.2.1 (pc + len)) lv, st, h1)
  | _ => False
def zo_cpj (E : Nat → List Value → zH → (zR → zH → Prop) → Prop) (M : zM) (Q : zR → zH → Prop) (P : zF → Prop) (pc len r1 r2 r3 : Nat) (ts : List Nat) (lv : List (Nat × Value)) (st : List Value) (h : zH) : Prop := match st with
  | .int n :: .int dp :: .ref b :: .int sp :: .ref a :: st => Nat.ble (zsz st) 20 = true ∧ ∃ h1, zcj h a sp b dp n = some h1 ∧ P (pc + len, zkp (M.2.2.1 (pc + len)) lv, st, h1)
  | _ => False
def zo_iret (E : Nat → List Value → zH → (zR → zH → Prop) → Prop) (M : zM) (Q : zR → zH → Prop) (P : zF → Prop) (pc len r1 r2 r3 : Nat) (ts : List Nat) (lv : List (Nat × Value)) (st : List Value) (h : zH) : Prop := match st with
  | [.int x] => zfit M.1 x ∧ Q (.inl (some (.int x))) h
  | _ => False
def zo_lret (E : Nat → List Value → zH → (zR → zH → Prop) → Prop) (M : zM) (Q : zR → zH → Prop) (P : zF → Prop) (pc len r1 r2 r3 : Nat) (ts : List Nat) (lv : List (Nat × Value)) (st : List Value) (h : zH) : Prop := match st with
  | [.long x] => Q (.inl (some (.long x))) h
  | _ => False
def zo_aret (E : Nat → List Value → zH → (zR → zH → Prop) → Prop) (M : zM) (Q : zR → zH → Prop) (P : zF → Prop) (pc len r1 r2 r3 : Nat) (ts : List Nat) (lv : List (Nat × Value)) (st : List Value) (h : zH) : Prop := match st with
  | [.ref x] => Q (.inl (some (.ref x))) h
  | _ => False
def zo_vret (E : Nat → List Value → zH → (zR → zH → Prop) → Prop) (M : zM) (Q : zR → zH → Prop) (P : zF → Prop) (pc len r1 r2 r3 : Nat) (ts : List Nat) (lv : List (Nat × Value)) (st : List Value) (h : zH) : Prop := match st with
  | [] => Q (.inl none) h
  | _ => False
def zo_opush (E : Nat → List Value → zH → (zR → zH → Prop) → Prop) (M : zM) (Q : zR → zH → Prop) (P : zF → Prop) (pc len r1 r2 r3 : Nat) (ts : List Nat) (lv : List (Nat × Value)) (st : List Value) (h : zH) : Prop := P (pc + len, zkp (M.2.2.1 (pc + len)) lv, .retAddr 0 :: st, h)
def zd0 (op : Nat) (E : Nat → List Value → zH → (zR → zH → Prop) → Prop) (M : zM) (Q : zR → zH → Prop) (P : zF → Prop) (pc len r1 r2 r3 : Nat) (ts : List Nat) (lv : List (Nat × Value)) (st : List Value) (h : zH) : Prop := (bif Nat.ble op 3 then (bif Nat.ble op 1 then (bif Nat.ble op 0 then zo_ipush E M Q P pc len r1 r2 r3 ts lv st h else zo_ipushn E M Q P pc len r1 r2 r3 ts lv st h) else (bif Nat.ble op 2 then zo_lpush E M Q P pc len r1 r2 r3 ts lv st h else zo_lpushn E M Q P pc len r1 r2 r3 ts lv st h)) else (bif Nat.ble op 5 then (bif Nat.ble op 4 then zo_rpush E M Q P pc len r1 r2 r3 ts lv st h else zo_iload E M Q P pc len r1 r2 r3 ts lv st h) else (bif Nat.ble op 6 then zo_lload E M Q P pc len r1 r2 r3 ts lv st h else zo_aload E M Q P pc len r1 r2 r3 ts lv st h)))
def zd1 (op : Nat) (E : Nat → List Value → zH → (zR → zH → Prop) → Prop) (M : zM) (Q : zR → zH → Prop) (P : zF → Prop) (pc len r1 r2 r3 : Nat) (ts : List Nat) (lv : List (Nat × Value)) (st : List Value) (h : zH) : Prop := (bif Nat.ble op 11 then (bif Nat.ble op 9 then (bif Nat.ble op 8 then zo_istore E M Q P pc len r1 r2 r3 ts lv st h else zo_astore E M Q P pc len r1 r2 r3 ts lv st h) else (bif Nat.ble op 10 then zo_lstore E M Q P pc len r1 r2 r3 ts lv st h else zo_iinc E M Q P pc len r1 r2 r3 ts lv st h)) else (bif Nat.ble op 13 then (bif Nat.ble op 12 then zo_iincn E M Q P pc len r1 r2 r3 ts lv st h else zo_iadd E M Q P pc len r1 r2 r3 ts lv st h) else (bif Nat.ble op 14 then zo_isub E M Q P pc len r1 r2 r3 ts lv st h else zo_imul E M Q P pc len r1 r2 r3 ts lv st h)))
def zd2 (op : Nat) (E : Nat → List Value → zH → (zR → zH → Prop) → Prop) (M : zM) (Q : zR → zH → Prop) (P : zF → Prop) (pc len r1 r2 r3 : Nat) (ts : List Nat) (lv : List (Nat × Value)) (st : List Value) (h : zH) : Prop := (bif Nat.ble op 19 then (bif Nat.ble op 17 then (bif Nat.ble op 16 then zo_iand E M Q P pc len r1 r2 r3 ts lv st h else zo_ior E M Q P pc len r1 r2 r3 ts lv st h) else (bif Nat.ble op 18 then zo_ixor E M Q P pc len r1 r2 r3 ts lv st h else zo_ishl E M Q P pc len r1 r2 r3 ts lv st h)) else (bif Nat.ble op 21 then (bif Nat.ble op 20 then zo_ishr E M Q P pc len r1 r2 r3 ts lv st h else zo_iushr E M Q P pc len r1 r2 r3 ts lv st h) else (bif Nat.ble op 22 then zo_idiv E M Q P pc len r1 r2 r3 ts lv st h else zo_irem E M Q P pc len r1 r2 r3 ts lv st h)))
def zd3 (op : Nat) (E : Nat → List Value → zH → (zR → zH → Prop) → Prop) (M : zM) (Q : zR → zH → Prop) (P : zF → Prop) (pc len r1 r2 r3 : Nat) (ts : List Nat) (lv : List (Nat × Value)) (st : List Value) (h : zH) : Prop := (bif Nat.ble op 27 then (bif Nat.ble op 25 then (bif Nat.ble op 24 then zo_land E M Q P pc len r1 r2 r3 ts lv st h else zo_lor E M Q P pc len r1 r2 r3 ts lv st h) else (bif Nat.ble op 26 then zo_lxor E M Q P pc len r1 r2 r3 ts lv st h else zo_lshl E M Q P pc len r1 r2 r3 ts lv st h)) else (bif Nat.ble op 29 then (bif Nat.ble op 28 then zo_lushr E M Q P pc len r1 r2 r3 ts lv st h else zo_lcmp E M Q P pc len r1 r2 r3 ts lv st h) else (bif Nat.ble op 30 then zo_i2l E M Q P pc len r1 r2 r3 ts lv st h else zo_i2b E M Q P pc len r1 r2 r3 ts lv st h)))
def zd4 (op : Nat) (E : Nat → List Value → zH → (zR → zH → Prop) → Prop) (M : zM) (Q : zR → zH → Prop) (P : zF → Prop) (pc len r1 r2 r3 : Nat) (ts : List Nat) (lv : List (Nat × Value)) (st : List Value) (h : zH) : Prop := (bif Nat.ble op 35 then (bif Nat.ble op 33 then (bif Nat.ble op 32 then zo_i2c E M Q P pc len r1 r2 r3 ts lv st h else zo_ineg E M Q P pc len r1 r2 r3 ts lv st h) else (bif Nat.ble op 34 then zo_l2i E M Q P pc len r1 r2 r3 ts lv st h else zo_dup E M Q P pc len r1 r2 r3 ts lv st h)) else (bif Nat.ble op 37 then (bif Nat.ble op 36 then zo_dup2 E M Q P pc len r1 r2 r3 ts lv st h else zo_pop E M Q P pc len r1 r2 r3 ts lv st h) else (bif Nat.ble op 38 then zo_goto E M Q P pc len r1 r2 r3 ts lv st h else zo_ifeq E M Q P pc len r1 r2 r3 ts lv st h)))
def zd5 (op : Nat) (E : Nat → List Value → zH → (zR → zH → Prop) → Prop) (M : zM) (Q : zR → zH → Prop) (P : zF → Prop) (pc len r1 r2 r3 : Nat) (ts : List Nat) (lv : List (Nat × Value)) (st : List Value) (h : zH) : Prop := (bif Nat.ble op 43 then (bif Nat.ble op 41 then (bif Nat.ble op 40 then zo_ifne E M Q P pc len r1 r2 r3 ts lv st h else zo_iflt E M Q P pc len r1 r2 r3 ts lv st h) else (bif Nat.ble op 42 then zo_ifge E M Q P pc len r1 r2 r3 ts lv st h else zo_ifgt E M Q P pc len r1 r2 r3 ts lv st h)) else (bif Nat.ble op 45 then (bif Nat.ble op 44 then zo_ifle E M Q P pc len r1 r2 r3 ts lv st h else zo_iceq E M Q P pc len r1 r2 r3 ts lv st h) else (bif Nat.ble op 46 then zo_icne E M Q P pc len r1 r2 r3 ts lv st h else zo_iclt E M Q P pc len r1 r2 r3 ts lv st h)))
def zd6 (op : Nat) (E : Nat → List Value → zH → (zR → zH → Prop) → Prop) (M : zM) (Q : zR → zH → Prop) (P : zF → Prop) (pc len r1 r2 r3 : Nat) (ts : List Nat) (lv : List (Nat × Value)) (st : List Value) (h : zH) : Prop := (bif Nat.ble op 51 then (bif Nat.ble op 49 then (bif Nat.ble op 48 then zo_icge E M Q P pc len r1 r2 r3 ts lv st h else zo_icgt E M Q P pc len r1 r2 r3 ts lv st h) else (bif Nat.ble op 50 then zo_icle E M Q P pc len r1 r2 r3 ts lv st h else zo_switch E M Q P pc len r1 r2 r3 ts lv st h)) else (bif Nat.ble op 53 then (bif Nat.ble op 52 then zo_getI E M Q P pc len r1 r2 r3 ts lv st h else zo_getJ E M Q P pc len r1 r2 r3 ts lv st h) else (bif Nat.ble op 54 then zo_getR E M Q P pc len r1 r2 r3 ts lv st h else zo_put E M Q P pc len r1 r2 r3 ts lv st h)))
def zd7 (op : Nat) (E : Nat → List Value → zH → (zR → zH → Prop) → Prop) (M : zM) (Q : zR → zH → Prop) (P : zF → Prop) (pc len r1 r2 r3 : Nat) (ts : List Nat) (lv : List (Nat × Value)) (st : List Value) (h : zH) : Prop := (bif Nat.ble op 59 then (bif Nat.ble op 57 then (bif Nat.ble op 56 then zo_alen E M Q P pc len r1 r2 r3 ts lv st h else zo_iald E M Q P pc len r1 r2 r3 ts lv st h) else (bif Nat.ble op 58 then zo_bald E M Q P pc len r1 r2 r3 ts lv st h else zo_lald E M Q P pc len r1 r2 r3 ts lv st h)) else (bif Nat.ble op 61 then (bif Nat.ble op 60 then zo_aald E M Q P pc len r1 r2 r3 ts lv st h else zo_iast E M Q P pc len r1 r2 r3 ts lv st h) else (bif Nat.ble op 62 then zo_bast E M Q P pc len r1 r2 r3 ts lv st h else zo_last E M Q P pc len r1 r2 r3 ts lv st h)))
def zd8 (op : Nat) (E : Nat → List Value → zH → (zR → zH → Prop) → Prop) (M : zM) (Q : zR → zH → Prop) (P : zF → Prop) (pc len r1 r2 r3 : Nat) (ts : List Nat) (lv : List (Nat × Value)) (st : List Value) (h : zH) : Prop := (bif Nat.ble op 67 then (bif Nat.ble op 65 then (bif Nat.ble op 64 then zo_aast E M Q P pc len r1 r2 r3 ts lv st h else zo_new E M Q P pc len r1 r2 r3 ts lv st h) else (bif Nat.ble op 66 then zo_throw E M Q P pc len r1 r2 r3 ts lv st h else zo_newa E M Q P pc len r1 r2 r3 ts lv st h)) else (bif Nat.ble op 69 then (bif Nat.ble op 68 then zo_call E M Q P pc len r1 r2 r3 ts lv st h else zo_nop E M Q P pc len r1 r2 r3 ts lv st h) else (bif Nat.ble op 70 then zo_cpi E M Q P pc len r1 r2 r3 ts lv st h else zo_cpj E M Q P pc len r1 r2 r3 ts lv st h)))
def zd9 (op : Nat) (E : Nat → List Value → zH → (zR → zH → Prop) → Prop) (M : zM) (Q : zR → zH → Prop) (P : zF → Prop) (pc len r1 r2 r3 : Nat) (ts : List Nat) (lv : List (Nat × Value)) (st : List Value) (h : zH) : Prop := (bif Nat.ble op 75 then (bif Nat.ble op 73 then (bif Nat.ble op 72 then zo_iret E M Q P pc len r1 r2 r3 ts lv st h else zo_lret E M Q P pc len r1 r2 r3 ts lv st h) else (bif Nat.ble op 74 then zo_aret E M Q P pc len r1 r2 r3 ts lv st h else zo_vret E M Q P pc len r1 r2 r3 ts lv st h)) else zo_opush E M Q P pc len r1 r2 r3 ts lv st h)
def zd (op : Nat) (E : Nat → List Value → zH → (zR → zH → Prop) → Prop) (M : zM) (Q : zR → zH → Prop) (P : zF → Prop) (pc len r1 r2 r3 : Nat) (ts : List Nat) (lv : List (Nat × Value)) (st : List Value) (h : zH) : Prop := (bif Nat.ble op 39 then (bif Nat.ble op 15 then (bif Nat.ble op 7 then zd0 op E M Q P pc len r1 r2 r3 ts lv st h else zd1 op E M Q P pc len r1 r2 r3 ts lv st h) else (bif Nat.ble op 23 then zd2 op E M Q P pc len r1 r2 r3 ts lv st h else (bif Nat.ble op 31 then zd3 op E M Q P pc len r1 r2 r3 ts lv st h else zd4 op E M Q P pc len r1 r2 r3 ts lv st h))) else (bif Nat.ble op 55 then (bif Nat.ble op 47 then zd5 op E M Q P pc len r1 r2 r3 ts lv st h else zd6 op E M Q P pc len r1 r2 r3 ts lv st h) else (bif Nat.ble op 63 then zd7 op E M Q P pc len r1 r2 r3 ts lv st h else (bif Nat.ble op 71 then zd8 op E M Q P pc len r1 r2 r3 ts lv st h else zd9 op E M Q P pc len r1 r2 r3 ts lv st h))))
def zs (E : Nat → List Value → zH → (zR → zH → Prop) → Prop) (M : zM) (Q : zR → zH → Prop) (P : zF → Prop) (pc : Nat) (lv : List (Nat × Value)) (st : List Value) (h : zH) : Prop := match M.2.1 pc with
  | none => False
  | some e => zd e.1 E M Q P pc e.2.1 e.2.2.1 e.2.2.2.1 e.2.2.2.2.1 e.2.2.2.2.2 lv st h
def zsF (E : Nat → List Value → zH → (zR → zH → Prop) → Prop) (M : zM) (Q : zR → zH → Prop) (P : zF → Prop) (f : zF) : Prop := zs E M Q P f.1 f.2.1 f.2.2.1 f.2.2.2
/-- from this frame the method ends in Q: the least such -/
def zW (E : Nat → List Value → zH → (zR → zH → Prop) → Prop) (M : zM) (Q : zR → zH → Prop) (f : zF) : Prop := ∀ P : zF → Prop, (∀ g, zsF E M Q P g → P g) → P f
