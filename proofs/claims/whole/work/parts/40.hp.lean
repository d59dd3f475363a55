/-! The heap as a function of a memory: ints, longs and references, by address and place. -/
abbrev hG : Type := (Nat → Nat → Int32) × (Nat → Nat → Int64) × (Nat → Nat → Nat)
/-- the next number, cells made, slots made, the script's length -/
abbrev hE : Type := Nat × Nat × Nat × Nat
abbrev hS : Type := (Nat × Nat) ⊕ (Nat × List (Nat × Nat))
def hZ : hS := .inr (6, [(0, 0), (0, 0), (1, 0), (1, 0), (0, 0), (0, 0), (0, 0)])
def hT0 (a : Nat) : hS := (bif Nat.ble a 1043 then (bif Nat.ble a 1021 then (bif Nat.ble a 1010 then (bif Nat.ble a 1004 then (bif Nat.ble a 1001 then (bif Nat.ble a 1000 then (.inr (7, [(2, 1001), (0, 0), (3, 0), (2, 1027), (2, 1032), (0, 0), (2, 1037), (2, 1042), (2, 1043), (2, 1045)])) else (.inr (3, [(2, 1002), (0, 0), (0, 0), (0, 0), (0, 0), (0, 0), (0, 0), (3, 0), (0, 0)]))) else (bif Nat.ble a 1002 then (.inl (2, 700)) else (bif Nat.ble a 1003 then (.inr (2, [(2, 1004), (0, 0), (2, 1009), (0, 0), (2, 1010), (0, 0), (2, 1011), (2, 1013), (0, 0), (0, 0)])) else (.inl (3, 4))))) else (bif Nat.ble a 1007 then (bif Nat.ble a 1005 then (hZ) else (bif Nat.ble a 1006 then (hZ) else (hZ))) else (bif Nat.ble a 1008 then (hZ) else (bif Nat.ble a 1009 then (.inl (0, 8)) else (.inl (0, 700)))))) else (bif Nat.ble a 1015 then (bif Nat.ble a 1012 then (bif Nat.ble a 1011 then (.inr (4, [(0, 0), (0, 0), (0, 0), (0, 0), (2, 1012)])) else (.inl (0, 40))) else (bif Nat.ble a 1013 then (.inr (4, [(0, 0), (0, 0), (0, 0), (0, 0), (2, 1014)])) else (bif Nat.ble a 1014 then (.inl (0, 40)) else (.inr (2, [(2, 1016), (0, 0), (2, 1021), (0, 0), (2, 1022), (0, 0), (2, 1023), (2, 1025), (0, 0), (0, 0)]))))) else (bif Nat.ble a 1018 then (bif Nat.ble a 1016 then (.inl (3, 4)) else (bif Nat.ble a 1017 then (hZ) else (hZ))) else (bif Nat.ble a 1019 then (hZ) else (bif Nat.ble a 1020 then (hZ) else (.inl (0, 8))))))) else (bif Nat.ble a 1032 then (bif Nat.ble a 1026 then (bif Nat.ble a 1023 then (bif Nat.ble a 1022 then (.inl (0, 700)) else (.inr (4, [(0, 0), (0, 0), (0, 0), (0, 0), (2, 1024)]))) else (bif Nat.ble a 1024 then (.inl (0, 40)) else (bif Nat.ble a 1025 then (.inr (4, [(0, 0), (0, 0), (0, 0), (0, 0), (2, 1026)])) else (.inl (0, 40))))) else (bif Nat.ble a 1029 then (bif Nat.ble a 1027 then (.inr (0, [(2, 1028), (0, 0), (2, 1029), (0, 0), (2, 1030), (2, 1031)])) else (bif Nat.ble a 1028 then (.inl (1, 520)) else (.inl (0, 8)))) else (bif Nat.ble a 1030 then (.inl (0, 3)) else (bif Nat.ble a 1031 then (.inl (1, 13)) else (.inr (0, [(2, 1033), (0, 0), (2, 1034), (0, 0), (2, 1035), (2, 1036)])))))) else (bif Nat.ble a 1037 then (bif Nat.ble a 1034 then (bif Nat.ble a 1033 then (.inl (1, 520)) else (.inl (0, 8))) else (bif Nat.ble a 1035 then (.inl (0, 3)) else (bif Nat.ble a 1036 then (.inl (1, 13)) else (.inl (3, 4))))) else (bif Nat.ble a 1040 then (bif Nat.ble a 1038 then (hZ) else (bif Nat.ble a 1039 then (hZ) else (hZ))) else (bif Nat.ble a 1041 then (hZ) else (bif Nat.ble a 1042 then (.inl (0, 4)) else (.inr (5, [(2, 1044)])))))))) else (bif Nat.ble a 1065 then (bif Nat.ble a 1054 then (bif Nat.ble a 1048 then (bif Nat.ble a 1045 then (bif Nat.ble a 1044 then (.inl (0, 289)) else (.inr (1, [(0, 0)]))) else (bif Nat.ble a 1046 then (.inr (8, [(2, 1047), (2, 1048), (2, 1049), (3, 0), (0, 0), (2, 1050), (2, 1051), (2, 1052), (2, 1053), (2, 1054), (2, 1055), (2, 1056), (2, 1057), (2, 1058), (2, 1059), (0, 0), (0, 0), (0, 0), (0, 0), (0, 0), (0, 0), (0, 0), (0, 0), (0, 0), (0, 0), (0, 0), (2, 1060), (2, 1061), (2, 1062), (2, 1063), (2, 1064), (0, 0), (0, 0), (0, 0), (2, 1065), (2, 1066), (2, 1067), (2, 1068), (2, 1069), (2, 1070), (2, 1071), (2, 1072), (2, 1073), (2, 1074), (2, 1075), (2, 1076), (2, 1077), (2, 1078), (2, 1079), (0, 0), (2, 1080), (0, 0), (0, 0), (0, 0), (0, 0), (2, 1081), (2, 1082), (2, 1083), (2, 1084), (2, 1085), (2, 1086), (2, 1087)])) else (bif Nat.ble a 1047 then (.inl (4, 2)) else (.inl (4, 5))))) else (bif Nat.ble a 1051 then (bif Nat.ble a 1049 then (.inl (4, 5)) else (bif Nat.ble a 1050 then (.inl (0, 8)) else (.inl (0, 8)))) else (bif Nat.ble a 1052 then (.inl (0, 8)) else (bif Nat.ble a 1053 then (.inl (0, 128)) else (.inl (0, 128)))))) else (bif Nat.ble a 1059 then (bif Nat.ble a 1056 then (bif Nat.ble a 1055 then (.inl (0, 16)) else (.inl (0, 1400))) else (bif Nat.ble a 1057 then (.inl (0, 1400)) else (bif Nat.ble a 1058 then (.inl (0, 3)) else (.inl (0, 700))))) else (bif Nat.ble a 1062 then (bif Nat.ble a 1060 then (.inl (0, 64)) else (bif Nat.ble a 1061 then (.inl (0, 64)) else (.inl (0, 4)))) else (bif Nat.ble a 1063 then (.inl (0, 4)) else (bif Nat.ble a 1064 then (.inl (0, 5480)) else (.inl (0, 5))))))) else (bif Nat.ble a 1076 then (bif Nat.ble a 1070 then (bif Nat.ble a 1067 then (bif Nat.ble a 1066 then (.inl (0, 64)) else (.inl (0, 4))) else (bif Nat.ble a 1068 then (.inl (0, 4)) else (bif Nat.ble a 1069 then (.inl (0, 4)) else (.inl (0, 137))))) else (bif Nat.ble a 1073 then (bif Nat.ble a 1071 then (.inl (0, 324)) else (bif Nat.ble a 1072 then (.inl (0, 80)) else (.inl (0, 8)))) else (bif Nat.ble a 1074 then (.inl (0, 8)) else (bif Nat.ble a 1075 then (.inl (0, 8)) else (.inl (0, 8)))))) else (bif Nat.ble a 1082 then (bif Nat.ble a 1079 then (bif Nat.ble a 1077 then (.inl (0, 137)) else (bif Nat.ble a 1078 then (.inl (0, 80)) else (.inl (0, 4)))) else (bif Nat.ble a 1080 then (.inl (0, 8)) else (bif Nat.ble a 1081 then (.inl (0, 137)) else (.inl (0, 5480))))) else (bif Nat.ble a 1085 then (bif Nat.ble a 1083 then (.inl (0, 8)) else (bif Nat.ble a 1084 then (.inl (0, 8)) else (.inl (0, 8)))) else (bif Nat.ble a 1086 then (.inl (0, 8)) else (bif Nat.ble a 1087 then (.inl (0, 3)) else (.inl (1, 1)))))))))
/-- what lies at an address of the law: rows (kind, length), objects (class, fields: 0 int, 1 long, 2 a reference that stays, 3 one that changes) -/
def hT (a : Nat) : Option hS := bif Nat.ble 1000 a then (bif Nat.ble a 1088 then some (hT0 a) else none) else none
/-- rows of references stay as they are -/
def hR (a i : Nat) : Option Nat := (bif Nat.beq a 1004 then ([1005, 1006, 1007, 1008] : List Nat)[i]? else bif Nat.beq a 1016 then ([1017, 1018, 1019, 1020] : List Nat)[i]? else bif Nat.beq a 1037 then ([1038, 1039, 1040, 1041] : List Nat)[i]? else bif Nat.beq a 1047 then ([30, 32] : List Nat)[i]? else bif Nat.beq a 1048 then ([34, 36, 38, 40, 42] : List Nat)[i]? else bif Nat.beq a 1049 then ([34, 36, 38, 40, 44] : List Nat)[i]? else none)
def htx : Nat → List Nat
  | 0 => [59, 40, 41, 43, 45, 42, 47, 60, 61]
  | 1 => [122, 105, 112]
  | 2 => [99, 111, 105, 108]
  | 3 => [115, 116, 114, 97, 105, 110]
  | 4 => [112, 117, 108, 108, 115]
  | 5 => [119, 101, 97, 114, 115]
  | 6 => [116, 111]
  | 7 => [111, 114]
  | 8 => [97, 110, 100]
  | 9 => [110, 111, 116]
  | 10 => [112, 108, 97, 99, 101]
  | 11 => [104, 111, 108, 100]
  | 12 => [100, 97, 121]
  | 13 => [111, 112, 101, 110]
  | 14 => [98, 117, 114, 115, 116, 115]
  | 15 => [122, 105, 112]
  | 16 => [99, 111, 105, 108]
  | 17 => [115, 116, 114, 97, 105, 110]
  | 18 => [112, 108, 97, 99, 101]
  | 19 => [104, 111, 108, 100]
  | 20 => [100, 97, 121]
  | 21 => [111, 112, 101, 110]
  | 22 => [98, 117, 114, 115, 116, 115]
  | 23 => [110, 111, 116]
  | 24 => [97, 110, 100]
  | 25 => [111, 114]
  | 26 => [116, 111]
  | 27 => [112, 117, 108, 108, 115]
  | 28 => [119, 101, 97, 114, 115]
  | _ => []
def hsc (n : Nat) (xs : Nat → Int32) (i : Nat) : Option zC := if i = 997 then some (.inl (0, n, .inl xs)) else if i < 58 then (if i % 2 = 0 then some (.inr (9, [.ref (i + 1), .int 0])) else some (.inl (2, (htx (i / 2)).length, .inl (fun j => nI ((htx (i / 2)).getD j 0))))) else none
def hav (g : hG) (a q : Nat) : (Nat → Int32) ⊕ (Nat → Int64) ⊕ (Nat → UInt32) ⊕ (Nat → UInt64) ⊕ (Nat → Option Nat) := match q with
  | 0 => .inl (g.1 a)
  | 1 => .inr (.inl (g.2.1 a))
  | 2 => .inl (g.1 a)
  | _ => .inr (.inr (.inr (.inr (hR a))))
def hfw (g : hG) (a k : Nat) (t : Nat × Nat) : Value := match t.1 with
  | 0 => .int (g.1 a k)
  | 1 => .long (g.2.1 a k)
  | 2 => .ref t.2
  | _ => .ref (g.2.2 a k)
def hfv (g : hG) (a : Nat) : Nat → List (Nat × Nat) → List Value
  | _, [] => []
  | k, t :: l => hfw g a k t :: hfv g a (k + 1) l
def hcell (g : hG) (e : hE) (a : Nat) : Option zC := match hT a with
  | some (.inl (q, n)) => some (.inl (q, n, hav g a q))
  | some (.inr (c, fs)) => some (.inr (c, hfv g a 0 fs))
  | none => hsc e.2.2.2 (g.1 997) a
def hp (g : hG) (e : hE) : zH := (e.1, e.2.1, e.2.2.1, hcell g e)
def sI (g : hG) (a k : Nat) (v : Int32) : hG := (va_up g.1 a (upd (g.1 a) k v), g.2)
def sJ (g : hG) (a k : Nat) (v : Int64) : hG := (g.1, va_up g.2.1 a (vp_updL (g.2.1 a) k v), g.2.2)
def sR (g : hG) (a k : Nat) (v : Nat) : hG := (g.1, g.2.1, va_up g.2.2 a (va_up (g.2.2 a) k v))
def aI (g : hG) (a : Nat) (f : Nat → Int32) : hG := (va_up g.1 a f, g.2)
def aJ (g : hG) (a : Nat) (f : Nat → Int64) : hG := (g.1, va_up g.2.1 a f, g.2.2)
theorem hT_ge {a : Nat} {s : hS} (h : hT a = some s) : 1000 ≤ a := by
  unfold hT at h
  cases q : Nat.ble 1000 a with
  | true => exact Nat.le_of_ble_eq_true q
  | false => rw [q] at h; cases h
theorem hfv_cg {g g' : hG} {a : Nat} (h1 : g.1 a = g'.1 a) (h2 : g.2.1 a = g'.2.1 a) (h3 : g.2.2 a = g'.2.2 a) : ∀ (fs : List (Nat × Nat)) (k : Nat), hfv g a k fs = hfv g' a k fs
  | [], _ => rfl
  | t :: l, k => by
    unfold hfv
    rw [hfv_cg h1 h2 h3 l (k + 1)]
    unfold hfw
    rw [h1, h2, h3]
theorem hcell_cg {g g' : hG} {e : hE} {a : Nat} (h1 : g.1 a = g'.1 a) (h2 : g.2.1 a = g'.2.1 a) (h3 : g.2.2 a = g'.2.2 a) (h4 : g.1 997 = g'.1 997) : hcell g e a = hcell g' e a := by
  unfold hcell
  split
  · unfold hav
    rw [h1, h2]
  · rw [hfv_cg h1 h2 h3]
  · rw [h4]
theorem va_up_at {α : Type} (f : Nat → α) (k : Nat) (v : α) : va_up f k v k = v := by unfold va_up; rw [if_pos rfl]
theorem va_up_off {α : Type} (f : Nat → α) {k j : Nat} (v : α) (h : ¬ j = k) : va_up f k v j = f j := by unfold va_up; rw [if_neg h]
theorem upd_at (f : Nat → Int32) (k : Nat) (v : Int32) : upd f k v k = v := by unfold upd; rw [if_pos rfl]
theorem upd_off (f : Nat → Int32) {k j : Nat} (v : Int32) (h : ¬ j = k) : upd f k v j = f j := by unfold upd; rw [if_neg h]
theorem updL_at (f : Nat → Int64) (k : Nat) (v : Int64) : vp_updL f k v k = v := by unfold vp_updL; rw [if_pos rfl]
theorem updL_off (f : Nat → Int64) {k j : Nat} (v : Int64) (h : ¬ j = k) : vp_updL f k v j = f j := by unfold vp_updL; rw [if_neg h]
theorem hfv_get {g : hG} {a : Nat} : ∀ (fs : List (Nat × Nat)) (j k : Nat) {t : Nat × Nat}, fs[k]? = some t → (hfv g a j fs)[k]? = some (hfw g a (j + k) t)
  | [], _, _, _, h => by cases h
  | _ :: _, j, 0, _, h => by cases h; rfl
  | t' :: l, j, k + 1, t, h => by
    have := hfv_get (g := g) (a := a) l (j + 1) k h
    rw [show j + (k + 1) = j + 1 + k by omega]
    exact this
theorem hfv_len {g : hG} {a : Nat} : ∀ (fs : List (Nat × Nat)) (j : Nat), (hfv g a j fs).length = fs.length
  | [], _ => rfl
  | _ :: l, j => by
    show (hfv g a (j + 1) l).length + 1 = l.length + 1
    rw [hfv_len l (j + 1)]
theorem hfv_set {g g' : hG} {a : Nat} {v : Value} : ∀ (fs : List (Nat × Nat)) (j k : Nat) {t : Nat × Nat}, fs[k]? = some t → hfw g' a (j + k) t = v → (∀ i t, ¬ i = j + k → hfw g' a i t = hfw g a i t) → hfv g' a j fs = (hfv g a j fs).set k v
  | [], _, _, _, h, _, _ => by cases h
  | t' :: l, j, 0, t, h, hv, ho => by
    cases h
    show hfw g' a j t' :: hfv g' a (j + 1) l = v :: hfv g a (j + 1) l
    rw [show hfw g' a j t' = v from hv]
    congr 1
    have : ∀ (l : List (Nat × Nat)) (m : Nat), j < m → hfv g' a m l = hfv g a m l := by
      intro l
      induction l with
      | nil => intro m _; rfl
      | cons t l ih =>
        intro m hm
        show hfw g' a m t :: hfv g' a (m + 1) l = hfw g a m t :: hfv g a (m + 1) l
        rw [ho m t (by omega), ih (m + 1) (by omega)]
    exact this l (j + 1) (by omega)
  | t' :: l, j, k + 1, t, h, hv, ho => by
    show hfw g' a j t' :: hfv g' a (j + 1) l = hfw g a j t' :: (hfv g a (j + 1) l).set k v
    rw [ho j t' (by omega), hfv_set (v := v) l (j + 1) k h ((show j + 1 + k = j + (k + 1) by omega) ▸ hv) (fun i t hi => ho i t (by omega))]
/-- a field's kind -/
def hks (s : hS) (c k : Nat) : Option (Nat × Nat) := match s with
  | .inr (d, fs) => bif Nat.beq d c then fs[k]? else none
  | _ => none
def hk (a c k : Nat) : Option (Nat × Nat) := match hT a with
  | some s => hks s c k
  | none => none
theorem hk_of {a c k : Nat} {s : hS} {x : Option (Nat × Nat)} (h : hT a = some s) (hx : hks s c k = x) : hk a c k = x := by unfold hk; rw [h]; exact hx
theorem hk_in {a c k : Nat} {t : Nat × Nat} (h : hk a c k = some t) : ∃ fs, hT a = some (.inr (c, fs)) ∧ fs[k]? = some t := by
  unfold hk at h
  split at h
  · rename_i s hs
    unfold hks at h
    split at h
    · rename_i d fs
      cases q : Nat.beq d c with
      | true =>
        rw [q] at h
        obtain rfl := Nat.eq_of_beq_eq_true q
        exact ⟨fs, hs, h⟩
      | false => rw [q] at h; cases h
    · cases h
  · cases h
theorem hp_obj {g : hG} {e : hE} {a c : Nat} {fs : List (Nat × Nat)} (h : hT a = some (.inr (c, fs))) : zcl (hp g e) a = some (.inr (c, hfv g a 0 fs)) := by
  show hcell g e a = _
  unfold hcell
  rw [h]
theorem hp_arr {g : hG} {e : hE} {a q n : Nat} (h : hT a = some (.inl (q, n))) : zcl (hp g e) a = some (.inl (q, n, hav g a q)) := by
  show hcell g e a = _
  unfold hcell
  rw [h]
theorem hp_get {g : hG} {e : hE} {a c k : Nat} {t : Nat × Nat} (h : hk a c k = some t) : zgf (hp g e) a c k = some (hfw g a k t) := by
  obtain ⟨fs, h1, h2⟩ := hk_in h
  unfold zgf
  rw [hp_obj h1]
  show (match Nat.beq c c with
    | true => (hfv g a 0 fs)[k]?
    | false => none) = _
  rw [Nat.beq_refl]
  have := hfv_get (g := g) (a := a) fs 0 k h2
  rw [Nat.zero_add] at this
  exact this
theorem hp_gI {g : hG} {e : hE} {a c k r : Nat} (h : hk a c k = some (0, r)) : zgf (hp g e) a c k = some (.int (g.1 a k)) := hp_get h
theorem hp_gJ {g : hG} {e : hE} {a c k r : Nat} (h : hk a c k = some (1, r)) : zgf (hp g e) a c k = some (.long (g.2.1 a k)) := hp_get h
theorem hp_gC {g : hG} {e : hE} {a c k r : Nat} (h : hk a c k = some (2, r)) : zgf (hp g e) a c k = some (.ref r) := hp_get h
theorem hp_gR {g : hG} {e : hE} {a c k r : Nat} (h : hk a c k = some (3, r)) : zgf (hp g e) a c k = some (.ref (g.2.2 a k)) := hp_get h
theorem hp_up {g g' : hG} {e : hE} {a : Nat} {x : zC} (ha : 1000 ≤ a) (h1 : ∀ b, ¬ b = a → g'.1 b = g.1 b) (h2 : ∀ b, ¬ b = a → g'.2.1 b = g.2.1 b) (h3 : ∀ b, ¬ b = a → g'.2.2 b = g.2.2 b) (hx : hcell g' e a = some x) : zup (hp g e) a x = hp g' e := by
  show (e.1, e.2.1, e.2.2.1, va_up (hcell g e) a (some x)) = (e.1, e.2.1, e.2.2.1, hcell g' e)
  congr 3
  funext b
  by_cases q : b = a
  · subst q
    rw [va_up_at, hx]
  · rw [va_up_off _ _ q]
    exact hcell_cg (h1 b q).symm (h2 b q).symm (h3 b q).symm (h1 997 (by omega)).symm
theorem hp_put {g g' : hG} {e : hE} {a c k : Nat} {t : Nat × Nat} {v : Value} (h : hk a c k = some t) (h1 : ∀ b, ¬ b = a → g'.1 b = g.1 b) (h2 : ∀ b, ¬ b = a → g'.2.1 b = g.2.1 b) (h3 : ∀ b, ¬ b = a → g'.2.2 b = g.2.2 b) (hv : hfw g' a k t = v) (ho : ∀ i t, ¬ i = k → hfw g' a i t = hfw g a i t) : zpf (hp g e) a c k v = some (hp g' e) := by
  obtain ⟨fs, q1, q2⟩ := hk_in h
  have ha := hT_ge q1
  have hk : k < fs.length := (List.getElem?_eq_some_iff.mp q2).1
  unfold zpf
  rw [hp_obj q1]
  show (if 1000 ≤ a ∧ c = c ∧ k < (hfv g a 0 fs).length then some (zup (hp g e) a (.inr (c, (hfv g a 0 fs).set k v))) else none) = _
  rw [if_pos ⟨ha, rfl, by rw [hfv_len]; exact hk⟩]
  congr 1
  refine hp_up ha h1 h2 h3 ?_
  have := hp_obj (g := g') (e := e) q1
  rw [show hcell g' e a = _ from this]
  rw [hfv_set (g := g) (g' := g') (v := v) fs 0 k q2 (by rw [Nat.zero_add]; exact hv) (fun i t hi => ho i t (by omega))]
theorem hp_sI {g : hG} {e : hE} {a c k r : Nat} {v : Int32} (h : hk a c k = some (0, r)) : zpf (hp g e) a c k (.int v) = some (hp (sI g a k v) e) :=
  hp_put h (fun b q => va_up_off _ _ q) (fun _ _ => rfl) (fun _ _ => rfl) (by show Value.int (va_up g.1 a (upd (g.1 a) k v) a k) = _; rw [va_up_at, upd_at]) (fun i t hi => by
    show (match t.1 with
      | 0 => Value.int (va_up g.1 a (upd (g.1 a) k v) a i)
      | 1 => .long (g.2.1 a i)
      | 2 => .ref t.2
      | _ => .ref (g.2.2 a i)) = _
    rw [va_up_at, upd_off _ _ hi]
    rfl)
theorem hp_sJ {g : hG} {e : hE} {a c k r : Nat} {v : Int64} (h : hk a c k = some (1, r)) : zpf (hp g e) a c k (.long v) = some (hp (sJ g a k v) e) :=
  hp_put h (fun _ _ => rfl) (fun b q => va_up_off _ _ q) (fun _ _ => rfl) (by show Value.long (va_up g.2.1 a (vp_updL (g.2.1 a) k v) a k) = _; rw [va_up_at, updL_at]) (fun i t hi => by
    show (match t.1 with
      | 0 => Value.int (g.1 a i)
      | 1 => .long (va_up g.2.1 a (vp_updL (g.2.1 a) k v) a i)
      | 2 => .ref t.2
      | _ => .ref (g.2.2 a i)) = _
    rw [va_up_at, updL_off _ _ hi]
    rfl)
theorem hp_sR {g : hG} {e : hE} {a c k r : Nat} {v : Nat} (h : hk a c k = some (3, r)) : zpf (hp g e) a c k (.ref v) = some (hp (sR g a k v) e) :=
  hp_put h (fun _ _ => rfl) (fun _ _ => rfl) (fun b q => va_up_off _ _ q) (by show Value.ref (va_up g.2.2 a (va_up (g.2.2 a) k v) a k) = _; rw [va_up_at, va_up_at]) (fun i t hi => by
    show (match t.1 with
      | 0 => Value.int (g.1 a i)
      | 1 => .long (g.2.1 a i)
      | 2 => .ref t.2
      | _ => .ref (va_up g.2.2 a (va_up (g.2.2 a) k v) a i)) = _
    rw [va_up_at, va_up_off _ _ hi]
    rfl)
/-- a place of a row -/
def hin (i : Int32) (n : Nat) : Prop := ¬ (i < 0 ∨ n ≤ i.toNatClampNeg)
theorem hp_al {g : hG} {e : hE} {a q n : Nat} (h : hT a = some (.inl (q, n))) (hq : Nat.ble q 4 = true) : zal (hp g e) a = some (nI n) := by
  unfold zal
  rw [hp_arr h]
  show (if q < 5 then some (nI n) else none) = _
  rw [if_pos (by have := Nat.le_of_ble_eq_true hq; omega)]
theorem hp_ia {g : hG} {e : hE} {a n : Nat} {i : Int32} (h : hT a = some (.inl (0, n))) (hi : hin i n) : zia (hp g e) a i = some (g.1 a i.toNatClampNeg) := by
  unfold zia
  rw [hp_arr h]
  exact if_neg hi
theorem hp_ba {g : hG} {e : hE} {a n : Nat} {i : Int32} (h : hT a = some (.inl (2, n))) (hi : hin i n) : zba (hp g e) a i = some (g.1 a i.toNatClampNeg) := by
  unfold zba
  rw [hp_arr h]
  exact if_neg hi
theorem hp_la {g : hG} {e : hE} {a n : Nat} {i : Int32} (h : hT a = some (.inl (1, n))) (hi : hin i n) : zla (hp g e) a i = some (g.2.1 a i.toNatClampNeg) := by
  unfold zla
  rw [hp_arr h]
  exact if_neg hi
theorem hp_aa {g : hG} {e : hE} {a q n r : Nat} {i : Int32} (h : hT a = some (.inl (q, n))) (hq : q = 3 ∨ q = 4) (hi : hin i n) (hr : hR a i.toNatClampNeg = some r) : zaa (hp g e) a i = some r := by
  unfold zaa
  rw [hp_arr h]
  rcases hq with rfl | rfl
  · show (if 3 < 3 ∨ 4 < 3 ∨ i < 0 ∨ n ≤ i.toNatClampNeg then none else hR a i.toNatClampNeg) = _
    rw [if_neg (by intro z; rcases z with z | z | z; omega; omega; exact hi z)]
    exact hr
  · show (if 4 < 3 ∨ 4 < 4 ∨ i < 0 ∨ n ≤ i.toNatClampNeg then none else hR a i.toNatClampNeg) = _
    rw [if_neg (by intro z; rcases z with z | z | z; omega; omega; exact hi z)]
    exact hr
theorem hp_aI {g : hG} {e : hE} {a q n : Nat} {f : Nat → Int32} (h : hT a = some (.inl (q, n))) (hq : q = 0 ∨ q = 2) : zup (hp g e) a (.inl (q, n, .inl f)) = hp (aI g a f) e := by
  refine hp_up (hT_ge h) (fun b q => va_up_off _ _ q) (fun _ _ => rfl) (fun _ _ => rfl) ?_
  have := hp_arr (g := aI g a f) (e := e) h
  rw [show hcell (aI g a f) e a = _ from this]
  rcases hq with rfl | rfl
  · show some (Sum.inl (0, n, Sum.inl (va_up g.1 a f a))) = _
    rw [va_up_at]
  · show some (Sum.inl (2, n, Sum.inl (va_up g.1 a f a))) = _
    rw [va_up_at]
theorem hp_aJ {g : hG} {e : hE} {a n : Nat} {f : Nat → Int64} (h : hT a = some (.inl (1, n))) : zup (hp g e) a (.inl (1, n, .inr (.inl f))) = hp (aJ g a f) e := by
  refine hp_up (hT_ge h) (fun _ _ => rfl) (fun b q => va_up_off _ _ q) (fun _ _ => rfl) ?_
  have := hp_arr (g := aJ g a f) (e := e) h
  rw [show hcell (aJ g a f) e a = _ from this]
  show some (Sum.inl (1, n, Sum.inr (Sum.inl (va_up g.2.1 a f a)))) = _
  rw [va_up_at]
theorem hp_is {g : hG} {e : hE} {a n : Nat} {i x : Int32} (h : hT a = some (.inl (0, n))) (hi : hin i n) : zis (hp g e) a i x = some (hp (sI g a i.toNatClampNeg x) e) := by
  unfold zis
  rw [hp_arr h]
  show (if a < 1000 ∨ i < 0 ∨ n ≤ i.toNatClampNeg then none else some (zup (hp g e) a (.inl (0, n, .inl (upd (g.1 a) i.toNatClampNeg x))))) = _
  rw [if_neg (by intro z; rcases z with z | z; (have := hT_ge h; omega); exact hi z), hp_aI h (Or.inl rfl)]
  rfl
theorem hp_bs {g : hG} {e : hE} {a n : Nat} {i x : Int32} (h : hT a = some (.inl (2, n))) (hi : hin i n) : zbs (hp g e) a i x = some (hp (sI g a i.toNatClampNeg (vp_nar .byte x)) e) := by
  unfold zbs
  rw [hp_arr h]
  show (if a < 1000 ∨ i < 0 ∨ n ≤ i.toNatClampNeg then none else some (zup (hp g e) a (.inl (2, n, .inl (upd (g.1 a) i.toNatClampNeg (vp_nar .byte x)))))) = _
  rw [if_neg (by intro z; rcases z with z | z; (have := hT_ge h; omega); exact hi z), hp_aI h (Or.inr rfl)]
  rfl
theorem hp_js {g : hG} {e : hE} {a n : Nat} {i : Int32} {x : Int64} (h : hT a = some (.inl (1, n))) (hi : hin i n) : zjs (hp g e) a i x = some (hp (sJ g a i.toNatClampNeg x) e) := by
  unfold zjs
  rw [hp_arr h]
  show (if a < 1000 ∨ i < 0 ∨ n ≤ i.toNatClampNeg then none else some (zup (hp g e) a (.inl (1, n, .inr (.inl (vp_updL (g.2.1 a) i.toNatClampNeg x)))))) = _
  rw [if_neg (by intro z; rcases z with z | z; (have := hT_ge h; omega); exact hi z), hp_aJ h]
  rfl
/-- what a copy asks -/
def hcpin (sp dp n : Int32) (n0 n1 : Nat) : Prop := ¬ (sp < 0 ∨ dp < 0 ∨ n < 0 ∨ n0 < sp.toNatClampNeg + n.toNatClampNeg ∨ n1 < dp.toNatClampNeg + n.toNatClampNeg)
theorem hp_ci {g : hG} {e : hE} {a b n0 n1 : Nat} {sp dp n : Int32} (h : hT a = some (.inl (0, n0))) (h' : hT b = some (.inl (0, n1))) (hi : hcpin sp dp n n0 n1) : zci (hp g e) a sp b dp n = some (hp (aI g b (va_cpy (g.1 a) (g.1 b) sp.toNatClampNeg dp.toNatClampNeg n.toNatClampNeg)) e) := by
  unfold zci
  rw [hp_arr h, hp_arr h']
  show (if a < 1000 ∨ b < 1000 ∨ _ then none else some (zup (hp g e) b (.inl (0, n1, .inl (va_cpy (g.1 a) (g.1 b) sp.toNatClampNeg dp.toNatClampNeg n.toNatClampNeg))))) = _
  rw [if_neg (by intro z; rcases z with z | z | z; (have := hT_ge h; omega); (have := hT_ge h'; omega); exact hi z), hp_aI h' (Or.inl rfl)]
theorem hp_cj {g : hG} {e : hE} {a b n0 n1 : Nat} {sp dp n : Int32} (h : hT a = some (.inl (1, n0))) (h' : hT b = some (.inl (1, n1))) (hi : hcpin sp dp n n0 n1) : zcj (hp g e) a sp b dp n = some (hp (aJ g b (va_cpy (g.2.1 a) (g.2.1 b) sp.toNatClampNeg dp.toNatClampNeg n.toNatClampNeg)) e) := by
  unfold zcj
  rw [hp_arr h, hp_arr h']
  show (if a < 1000 ∨ b < 1000 ∨ _ then none else some (zup (hp g e) b (.inl (1, n1, .inr (.inl (va_cpy (g.2.1 a) (g.2.1 b) sp.toNatClampNeg dp.toNatClampNeg n.toNatClampNeg)))))) = _
  rw [if_neg (by intro z; rcases z with z | z | z; (have := hT_ge h; omega); (have := hT_ge h'; omega); exact hi z), hp_aJ h']
/-- room for a throw, and what it takes -/
def hrm (e : hE) : Prop := ¬ (zNL ≤ e.2.1 ∨ zSL < e.2.2.1 + 6)
def hth (e : hE) : hE := (0, e.2.1 + 1, e.2.2.1 + 6, e.2.2.2)
theorem hp_nx {g : hG} {e : hE} (h : hrm e) : znx (hp g e) = some (hp g (hth e)) := by
  unfold znx
  show (if zNL ≤ e.2.1 ∨ zSL < e.2.2.1 + 6 then none else some (0, e.2.1 + 1, e.2.2.1 + 6, hcell g e)) = _
  rw [if_neg h]
  rfl
/-- how a method ends, by its answer -/
def hqi (k : Int32 → hG → hE → Prop) (X : Nat → hG → hE → Prop) : zR → zH → Prop := fun r h => ∃ g e, h = hp g e ∧ (match r with
  | .inl (some (.int x)) => k x g e
  | .inr y => X y g e
  | _ => False)
def hqj (k : Int64 → hG → hE → Prop) (X : Nat → hG → hE → Prop) : zR → zH → Prop := fun r h => ∃ g e, h = hp g e ∧ (match r with
  | .inl (some (.long x)) => k x g e
  | .inr y => X y g e
  | _ => False)
def hqr (k : Nat → hG → hE → Prop) (X : Nat → hG → hE → Prop) : zR → zH → Prop := fun r h => ∃ g e, h = hp g e ∧ (match r with
  | .inl (some (.ref x)) => k x g e
  | .inr y => X y g e
  | _ => False)
def hqv (k : hG → hE → Prop) (X : Nat → hG → hE → Prop) : zR → zH → Prop := fun r h => ∃ g e, h = hp g e ∧ (match r with
  | .inl none => k g e
  | .inr y => X y g e
  | _ => False)
def hci (d n : Nat) (as : List Value) (g : hG) (e : hE) (k : Int32 → hG → hE → Prop) (X : Nat → hG → hE → Prop) : Prop := zE d n as (hp g e) (hqi k X)
def hcj (d n : Nat) (as : List Value) (g : hG) (e : hE) (k : Int64 → hG → hE → Prop) (X : Nat → hG → hE → Prop) : Prop := zE d n as (hp g e) (hqj k X)
def hcr (d n : Nat) (as : List Value) (g : hG) (e : hE) (k : Nat → hG → hE → Prop) (X : Nat → hG → hE → Prop) : Prop := zE d n as (hp g e) (hqr k X)
def hcv (d n : Nat) (as : List Value) (g : hG) (e : hE) (k : hG → hE → Prop) (X : Nat → hG → hE → Prop) : Prop := zE d n as (hp g e) (hqv k X)
def hwi (d : Nat) (M : zM) (k : Int32 → hG → hE → Prop) (X : Nat → hG → hE → Prop) (pc : Nat) (lv : List (Nat × Value)) (g : hG) (e : hE) : Prop := zW (zE d) M (hqi k X) (pc, lv, [], hp g e)
def hwj (d : Nat) (M : zM) (k : Int64 → hG → hE → Prop) (X : Nat → hG → hE → Prop) (pc : Nat) (lv : List (Nat × Value)) (g : hG) (e : hE) : Prop := zW (zE d) M (hqj k X) (pc, lv, [], hp g e)
def hwr (d : Nat) (M : zM) (k : Nat → hG → hE → Prop) (X : Nat → hG → hE → Prop) (pc : Nat) (lv : List (Nat × Value)) (g : hG) (e : hE) : Prop := zW (zE d) M (hqr k X) (pc, lv, [], hp g e)
def hwv (d : Nat) (M : zM) (k : hG → hE → Prop) (X : Nat → hG → hE → Prop) (pc : Nat) (lv : List (Nat × Value)) (g : hG) (e : hE) : Prop := zW (zE d) M (hqv k X) (pc, lv, [], hp g e)
/-- a method is entered: of an object, of none -/
theorem hent {d n : Nat} {as : List Value} {a : Nat} {g : hG} {e : hE} {Q : zR → zH → Prop} {M : zM} {lv : List (Nat × Value)} {c : Nat} {fs : List (Nat × Nat)} (hc : hT a = some (.inr (c, fs))) (h2 : Nat.beq (zYN n).2 c = true) (h3 : Nat.beq c 99 = false) (h1 : Nat.ble (zsz (.ref a :: as)) (zYN n).1 = true) (hM : zMT n = M) (hl : zkp (M.2.2.1 0) (lv_args 0 (.ref a :: as)) = lv) (H : zW (zE d) M Q (0, lv, [], hp g e)) : zE (d + 1) n (.ref a :: as) (hp g e) Q := by
  subst hM
  refine ⟨⟨h1, ?_⟩, ?_⟩
  · rw [Nat.eq_of_beq_eq_true h2, h3]
    exact ⟨_, hp_obj hc⟩
  · rw [hl]
    exact H
theorem hentS {d n : Nat} {as : List Value} {g : hG} {e : hE} {Q : zR → zH → Prop} {M : zM} {lv : List (Nat × Value)} (h2 : Nat.beq (zYN n).2 99 = true) (h1 : Nat.ble (zsz as) (zYN n).1 = true) (hM : zMT n = M) (hl : zkp (M.2.2.1 0) (lv_args 0 as) = lv) (H : zW (zE d) M Q (0, lv, [], hp g e)) : zE (d + 1) n as (hp g e) Q := by
  subst hM
  refine ⟨⟨h1, ?_⟩, ?_⟩
  · rw [h2]
    trivial
  · rw [hl]
    exact H
/-- of a text -/
theorem hentT {d n : Nat} {as : List Value} {a : Nat} {g : hG} {e : hE} {Q : zR → zH → Prop} {M : zM} {lv : List (Nat × Value)} (ha : a < 58 ∧ a % 2 = 0) (h2 : Nat.beq (zYN n).2 9 = true) (h1 : Nat.ble (zsz (.ref a :: as)) (zYN n).1 = true) (hM : zMT n = M) (hl : zkp (M.2.2.1 0) (lv_args 0 (.ref a :: as)) = lv) (H : zW (zE d) M Q (0, lv, [], hp g e)) : zE (d + 1) n (.ref a :: as) (hp g e) Q := by
  subst hM
  refine ⟨⟨h1, ?_⟩, ?_⟩
  · rw [Nat.eq_of_beq_eq_true h2]
    refine ⟨[.ref (a + 1), .int 0], ?_⟩
    show hcell g e a = _
    unfold hcell
    have : hT a = none := by
      cases q : hT a with
      | none => rfl
      | some s => have := hT_ge q; omega
    rw [this]
    show hsc _ _ a = _
    unfold hsc
    rw [if_neg (by omega), if_pos ha.1, if_pos ha.2]
  · rw [hl]
    exact H
theorem hq_calli {d : Nat} {M : zM} {Q : zR → zH → Prop} {X : Nat → hG → hE → Prop} {pc len r1 r2 : Nat} {ts : List Nat} {lv : List (Nat × Value)} {st : List Value} {g : hG} {e : hE} {pc' : Nat} {as st0 : List Value} (ht : M.2.1 pc = some (68, len, r1, r2, 1, ts)) (hn : pc + len = pc') (hk : M.2.2.1 pc' = none) (hx : M.2.2.2 = []) (hp0 : zpop r2 [] st0 = some (as, st)) (hz : Nat.ble (zsz st) 20 = true) (hX : ∀ y g e, X y g e → Q (.inr y) (hp g e)) (H : hci d r1 as g e (fun (x : Int32) g1 e1 => zW (zE d) M Q (pc', lv, .int x :: st, hp g1 e1)) X) : zW (zE d) M Q (pc, lv, st0, hp g e) := by
  refine zq_calli ht hn hk hx hp0 hz (zE_mono H (fun r h H => ?_))
  obtain ⟨g1, e1, rfl, H⟩ := H
  rcases r with v | y
  · cases v with
    | none => exact H.elim
    | some v => cases v <;> first | exact ⟨_, rfl, H⟩ | exact H.elim
  · exact hX y g1 e1 H
theorem hq_callj {d : Nat} {M : zM} {Q : zR → zH → Prop} {X : Nat → hG → hE → Prop} {pc len r1 r2 : Nat} {ts : List Nat} {lv : List (Nat × Value)} {st : List Value} {g : hG} {e : hE} {pc' : Nat} {as st0 : List Value} (ht : M.2.1 pc = some (68, len, r1, r2, 2, ts)) (hn : pc + len = pc') (hk : M.2.2.1 pc' = none) (hx : M.2.2.2 = []) (hp0 : zpop r2 [] st0 = some (as, st)) (hz : Nat.ble (zsz st) 20 = true) (hX : ∀ y g e, X y g e → Q (.inr y) (hp g e)) (H : hcj d r1 as g e (fun (x : Int64) g1 e1 => zW (zE d) M Q (pc', lv, .long x :: st, hp g1 e1)) X) : zW (zE d) M Q (pc, lv, st0, hp g e) := by
  refine zq_calll ht hn hk hx hp0 hz (zE_mono H (fun r h H => ?_))
  obtain ⟨g1, e1, rfl, H⟩ := H
  rcases r with v | y
  · cases v with
    | none => exact H.elim
    | some v => cases v <;> first | exact ⟨_, rfl, H⟩ | exact H.elim
  · exact hX y g1 e1 H
theorem hq_callr {d : Nat} {M : zM} {Q : zR → zH → Prop} {X : Nat → hG → hE → Prop} {pc len r1 r2 : Nat} {ts : List Nat} {lv : List (Nat × Value)} {st : List Value} {g : hG} {e : hE} {pc' : Nat} {as st0 : List Value} (ht : M.2.1 pc = some (68, len, r1, r2, 3, ts)) (hn : pc + len = pc') (hk : M.2.2.1 pc' = none) (hx : M.2.2.2 = []) (hp0 : zpop r2 [] st0 = some (as, st)) (hz : Nat.ble (zsz st) 20 = true) (hX : ∀ y g e, X y g e → Q (.inr y) (hp g e)) (H : hcr d r1 as g e (fun (x : Nat) g1 e1 => zW (zE d) M Q (pc', lv, .ref x :: st, hp g1 e1)) X) : zW (zE d) M Q (pc, lv, st0, hp g e) := by
  refine zq_callr ht hn hk hx hp0 hz (zE_mono H (fun r h H => ?_))
  obtain ⟨g1, e1, rfl, H⟩ := H
  rcases r with v | y
  · cases v with
    | none => exact H.elim
    | some v => cases v <;> first | exact ⟨_, rfl, H⟩ | exact H.elim
  · exact hX y g1 e1 H
theorem hq_callv {d : Nat} {M : zM} {Q : zR → zH → Prop} {X : Nat → hG → hE → Prop} {pc len r1 r2 : Nat} {ts : List Nat} {lv : List (Nat × Value)} {st : List Value} {g : hG} {e : hE} {pc' : Nat} {as st0 : List Value} (ht : M.2.1 pc = some (68, len, r1, r2, 0, ts)) (hn : pc + len = pc') (hk : M.2.2.1 pc' = none) (hx : M.2.2.2 = []) (hp0 : zpop r2 [] st0 = some (as, st)) (hz : Nat.ble (zsz st) 20 = true) (hX : ∀ y g e, X y g e → Q (.inr y) (hp g e)) (H : hcv d r1 as g e (fun g1 e1 => zW (zE d) M Q (pc', lv, st, hp g1 e1)) X) : zW (zE d) M Q (pc, lv, st0, hp g e) := by
  refine zq_callv ht hn hk hx hp0 hz (zE_mono H (fun r h H => ?_))
  obtain ⟨g1, e1, rfl, H⟩ := H
  rcases r with v | y
  · cases v with
    | none => exact ⟨rfl, H⟩
    | some v => exact H.elim
  · exact hX y g1 e1 H
theorem hq_calli_c {d : Nat} {M : zM} {Q : zR → zH → Prop} {X : Nat → hG → hE → Prop} {pc len r1 r2 : Nat} {ts : List Nat} {lv : List (Nat × Value)} {st : List Value} {g : hG} {e : hE} {pc' : Nat} {as st0 : List Value} (ht : M.2.1 pc = some (68, len, r1, r2, 1, ts)) (hn : pc + len = pc') (hx : M.2.2.2 = []) (hp0 : zpop r2 [] st0 = some (as, st)) (hz : Nat.ble (zsz st) 20 = true) (hX : ∀ y g e, X y g e → Q (.inr y) (hp g e)) (H : hci d r1 as g e (fun (x : Int32) g1 e1 => zW (zE d) M Q (pc', zkp (M.2.2.1 pc') lv, .int x :: st, hp g1 e1)) X) : zW (zE d) M Q (pc, lv, st0, hp g e) := by
  refine zq_calli_c ht hn hx hp0 hz (zE_mono H (fun r h H => ?_))
  obtain ⟨g1, e1, rfl, H⟩ := H
  rcases r with v | y
  · cases v with
    | none => exact H.elim
    | some v => cases v <;> first | exact ⟨_, rfl, H⟩ | exact H.elim
  · exact hX y g1 e1 H
theorem hq_callj_c {d : Nat} {M : zM} {Q : zR → zH → Prop} {X : Nat → hG → hE → Prop} {pc len r1 r2 : Nat} {ts : List Nat} {lv : List (Nat × Value)} {st : List Value} {g : hG} {e : hE} {pc' : Nat} {as st0 : List Value} (ht : M.2.1 pc = some (68, len, r1, r2, 2, ts)) (hn : pc + len = pc') (hx : M.2.2.2 = []) (hp0 : zpop r2 [] st0 = some (as, st)) (hz : Nat.ble (zsz st) 20 = true) (hX : ∀ y g e, X y g e → Q (.inr y) (hp g e)) (H : hcj d r1 as g e (fun (x : Int64) g1 e1 => zW (zE d) M Q (pc', zkp (M.2.2.1 pc') lv, .long x :: st, hp g1 e1)) X) : zW (zE d) M Q (pc, lv, st0, hp g e) := by
  refine zq_calll_c ht hn hx hp0 hz (zE_mono H (fun r h H => ?_))
  obtain ⟨g1, e1, rfl, H⟩ := H
  rcases r with v | y
  · cases v with
    | none => exact H.elim
    | some v => cases v <;> first | exact ⟨_, rfl, H⟩ | exact H.elim
  · exact hX y g1 e1 H
theorem hq_callr_c {d : Nat} {M : zM} {Q : zR → zH → Prop} {X : Nat → hG → hE → Prop} {pc len r1 r2 : Nat} {ts : List Nat} {lv : List (Nat × Value)} {st : List Value} {g : hG} {e : hE} {pc' : Nat} {as st0 : List Value} (ht : M.2.1 pc = some (68, len, r1, r2, 3, ts)) (hn : pc + len = pc') (hx : M.2.2.2 = []) (hp0 : zpop r2 [] st0 = some (as, st)) (hz : Nat.ble (zsz st) 20 = true) (hX : ∀ y g e, X y g e → Q (.inr y) (hp g e)) (H : hcr d r1 as g e (fun (x : Nat) g1 e1 => zW (zE d) M Q (pc', zkp (M.2.2.1 pc') lv, .ref x :: st, hp g1 e1)) X) : zW (zE d) M Q (pc, lv, st0, hp g e) := by
  refine zq_callr_c ht hn hx hp0 hz (zE_mono H (fun r h H => ?_))
  obtain ⟨g1, e1, rfl, H⟩ := H
  rcases r with v | y
  · cases v with
    | none => exact H.elim
    | some v => cases v <;> first | exact ⟨_, rfl, H⟩ | exact H.elim
  · exact hX y g1 e1 H
theorem hq_callv_c {d : Nat} {M : zM} {Q : zR → zH → Prop} {X : Nat → hG → hE → Prop} {pc len r1 r2 : Nat} {ts : List Nat} {lv : List (Nat × Value)} {st : List Value} {g : hG} {e : hE} {pc' : Nat} {as st0 : List Value} (ht : M.2.1 pc = some (68, len, r1, r2, 0, ts)) (hn : pc + len = pc') (hx : M.2.2.2 = []) (hp0 : zpop r2 [] st0 = some (as, st)) (hz : Nat.ble (zsz st) 20 = true) (hX : ∀ y g e, X y g e → Q (.inr y) (hp g e)) (H : hcv d r1 as g e (fun g1 e1 => zW (zE d) M Q (pc', zkp (M.2.2.1 pc') lv, st, hp g1 e1)) X) : zW (zE d) M Q (pc, lv, st0, hp g e) := by
  refine zq_callv_c ht hn hx hp0 hz (zE_mono H (fun r h H => ?_))
  obtain ⟨g1, e1, rfl, H⟩ := H
  rcases r with v | y
  · cases v with
    | none => exact ⟨rfl, H⟩
    | some v => exact H.elim
  · exact hX y g1 e1 H
theorem hq_callix {d : Nat} {M : zM} {Q : zR → zH → Prop} {X' : Nat → hG → hE → Prop} {pc len r1 r2 : Nat} {ts : List Nat} {lv : List (Nat × Value)} {st : List Value} {g : hG} {e : hE} {pc' : Nat} {as st0 : List Value} (ht : M.2.1 pc = some (68, len, r1, r2, 1, ts)) (hn : pc + len = pc') (hk : M.2.2.1 pc' = none) (hp0 : zpop r2 [] st0 = some (as, st)) (hz : Nat.ble (zsz st) 20 = true) (hX : ∀ y g e, X' y g e → zX Q (fun f => zW (zE d) M Q (f.1, zkp (M.2.2.1 f.1) f.2.1, f.2.2.1, f.2.2.2)) pc lv y (hp g e) M.2.2.2) (H : hci d r1 as g e (fun (x : Int32) g1 e1 => zW (zE d) M Q (pc', lv, .int x :: st, hp g1 e1)) X') : zW (zE d) M Q (pc, lv, st0, hp g e) := by
  subst hn
  refine zW_in ?_
  show zs (zE d) M Q _ pc lv _ (hp g e)
  unfold zs
  rw [ht]
  show zo_call (zE d) M Q (zW (zE d) M Q) pc len r1 r2 1 ts lv st0 (hp g e)
  unfold zo_call
  rw [hp0]
  refine And.intro hz (zE_mono H (fun r h2 H => ?_))
  obtain ⟨g1, e1, rfl, H⟩ := H
  rcases r with v | y
  · cases v with
    | none => exact H.elim
    | some v => cases v <;> first | exact ⟨_, rfl, by rw [hk]; exact H⟩ | exact H.elim
  · exact hX y g1 e1 H
theorem hq_calljx {d : Nat} {M : zM} {Q : zR → zH → Prop} {X' : Nat → hG → hE → Prop} {pc len r1 r2 : Nat} {ts : List Nat} {lv : List (Nat × Value)} {st : List Value} {g : hG} {e : hE} {pc' : Nat} {as st0 : List Value} (ht : M.2.1 pc = some (68, len, r1, r2, 2, ts)) (hn : pc + len = pc') (hk : M.2.2.1 pc' = none) (hp0 : zpop r2 [] st0 = some (as, st)) (hz : Nat.ble (zsz st) 20 = true) (hX : ∀ y g e, X' y g e → zX Q (fun f => zW (zE d) M Q (f.1, zkp (M.2.2.1 f.1) f.2.1, f.2.2.1, f.2.2.2)) pc lv y (hp g e) M.2.2.2) (H : hcj d r1 as g e (fun (x : Int64) g1 e1 => zW (zE d) M Q (pc', lv, .long x :: st, hp g1 e1)) X') : zW (zE d) M Q (pc, lv, st0, hp g e) := by
  subst hn
  refine zW_in ?_
  show zs (zE d) M Q _ pc lv _ (hp g e)
  unfold zs
  rw [ht]
  show zo_call (zE d) M Q (zW (zE d) M Q) pc len r1 r2 2 ts lv st0 (hp g e)
  unfold zo_call
  rw [hp0]
  refine And.intro hz (zE_mono H (fun r h2 H => ?_))
  obtain ⟨g1, e1, rfl, H⟩ := H
  rcases r with v | y
  · cases v with
    | none => exact H.elim
    | some v => cases v <;> first | exact ⟨_, rfl, by rw [hk]; exact H⟩ | exact H.elim
  · exact hX y g1 e1 H
theorem hq_callrx {d : Nat} {M : zM} {Q : zR → zH → Prop} {X' : Nat → hG → hE → Prop} {pc len r1 r2 : Nat} {ts : List Nat} {lv : List (Nat × Value)} {st : List Value} {g : hG} {e : hE} {pc' : Nat} {as st0 : List Value} (ht : M.2.1 pc = some (68, len, r1, r2, 3, ts)) (hn : pc + len = pc') (hk : M.2.2.1 pc' = none) (hp0 : zpop r2 [] st0 = some (as, st)) (hz : Nat.ble (zsz st) 20 = true) (hX : ∀ y g e, X' y g e → zX Q (fun f => zW (zE d) M Q (f.1, zkp (M.2.2.1 f.1) f.2.1, f.2.2.1, f.2.2.2)) pc lv y (hp g e) M.2.2.2) (H : hcr d r1 as g e (fun (x : Nat) g1 e1 => zW (zE d) M Q (pc', lv, .ref x :: st, hp g1 e1)) X') : zW (zE d) M Q (pc, lv, st0, hp g e) := by
  subst hn
  refine zW_in ?_
  show zs (zE d) M Q _ pc lv _ (hp g e)
  unfold zs
  rw [ht]
  show zo_call (zE d) M Q (zW (zE d) M Q) pc len r1 r2 3 ts lv st0 (hp g e)
  unfold zo_call
  rw [hp0]
  refine And.intro hz (zE_mono H (fun r h2 H => ?_))
  obtain ⟨g1, e1, rfl, H⟩ := H
  rcases r with v | y
  · cases v with
    | none => exact H.elim
    | some v => cases v <;> first | exact ⟨_, rfl, by rw [hk]; exact H⟩ | exact H.elim
  · exact hX y g1 e1 H
theorem hq_callvx {d : Nat} {M : zM} {Q : zR → zH → Prop} {X' : Nat → hG → hE → Prop} {pc len r1 r2 : Nat} {ts : List Nat} {lv : List (Nat × Value)} {st : List Value} {g : hG} {e : hE} {pc' : Nat} {as st0 : List Value} (ht : M.2.1 pc = some (68, len, r1, r2, 0, ts)) (hn : pc + len = pc') (hk : M.2.2.1 pc' = none) (hp0 : zpop r2 [] st0 = some (as, st)) (hz : Nat.ble (zsz st) 20 = true) (hX : ∀ y g e, X' y g e → zX Q (fun f => zW (zE d) M Q (f.1, zkp (M.2.2.1 f.1) f.2.1, f.2.2.1, f.2.2.2)) pc lv y (hp g e) M.2.2.2) (H : hcv d r1 as g e (fun g1 e1 => zW (zE d) M Q (pc', lv, st, hp g1 e1)) X') : zW (zE d) M Q (pc, lv, st0, hp g e) := by
  subst hn
  refine zW_in ?_
  show zs (zE d) M Q _ pc lv _ (hp g e)
  unfold zs
  rw [ht]
  show zo_call (zE d) M Q (zW (zE d) M Q) pc len r1 r2 0 ts lv st0 (hp g e)
  unfold zo_call
  rw [hp0]
  refine And.intro hz (zE_mono H (fun r h2 H => ?_))
  obtain ⟨g1, e1, rfl, H⟩ := H
  rcases r with v | y
  · cases v with
    | none => exact ⟨rfl, by rw [hk]; exact H⟩
    | some v => exact H.elim
  · exact hX y g1 e1 H
theorem hq_callix_c {d : Nat} {M : zM} {Q : zR → zH → Prop} {X' : Nat → hG → hE → Prop} {pc len r1 r2 : Nat} {ts : List Nat} {lv : List (Nat × Value)} {st : List Value} {g : hG} {e : hE} {pc' : Nat} {as st0 : List Value} (ht : M.2.1 pc = some (68, len, r1, r2, 1, ts)) (hn : pc + len = pc') (hp0 : zpop r2 [] st0 = some (as, st)) (hz : Nat.ble (zsz st) 20 = true) (hX : ∀ y g e, X' y g e → zX Q (fun f => zW (zE d) M Q (f.1, zkp (M.2.2.1 f.1) f.2.1, f.2.2.1, f.2.2.2)) pc lv y (hp g e) M.2.2.2) (H : hci d r1 as g e (fun (x : Int32) g1 e1 => zW (zE d) M Q (pc', zkp (M.2.2.1 pc') lv, .int x :: st, hp g1 e1)) X') : zW (zE d) M Q (pc, lv, st0, hp g e) := by
  subst hn
  refine zW_in ?_
  show zs (zE d) M Q _ pc lv _ (hp g e)
  unfold zs
  rw [ht]
  show zo_call (zE d) M Q (zW (zE d) M Q) pc len r1 r2 1 ts lv st0 (hp g e)
  unfold zo_call
  rw [hp0]
  refine And.intro hz (zE_mono H (fun r h2 H => ?_))
  obtain ⟨g1, e1, rfl, H⟩ := H
  rcases r with v | y
  · cases v with
    | none => exact H.elim
    | some v => cases v <;> first | exact ⟨_, rfl, by exact H⟩ | exact H.elim
  · exact hX y g1 e1 H
theorem hq_calljx_c {d : Nat} {M : zM} {Q : zR → zH → Prop} {X' : Nat → hG → hE → Prop} {pc len r1 r2 : Nat} {ts : List Nat} {lv : List (Nat × Value)} {st : List Value} {g : hG} {e : hE} {pc' : Nat} {as st0 : List Value} (ht : M.2.1 pc = some (68, len, r1, r2, 2, ts)) (hn : pc + len = pc') (hp0 : zpop r2 [] st0 = some (as, st)) (hz : Nat.ble (zsz st) 20 = true) (hX : ∀ y g e, X' y g e → zX Q (fun f => zW (zE d) M Q (f.1, zkp (M.2.2.1 f.1) f.2.1, f.2.2.1, f.2.2.2)) pc lv y (hp g e) M.2.2.2) (H : hcj d r1 as g e (fun (x : Int64) g1 e1 => zW (zE d) M Q (pc', zkp (M.2.2.1 pc') lv, .long x :: st, hp g1 e1)) X') : zW (zE d) M Q (pc, lv, st0, hp g e) := by
  subst hn
  refine zW_in ?_
  show zs (zE d) M Q _ pc lv _ (hp g e)
  unfold zs
  rw [ht]
  show zo_call (zE d) M Q (zW (zE d) M Q) pc len r1 r2 2 ts lv st0 (hp g e)
  unfold zo_call
  rw [hp0]
  refine And.intro hz (zE_mono H (fun r h2 H => ?_))
  obtain ⟨g1, e1, rfl, H⟩ := H
  rcases r with v | y
  · cases v with
    | none => exact H.elim
    | some v => cases v <;> first | exact ⟨_, rfl, by exact H⟩ | exact H.elim
  · exact hX y g1 e1 H
theorem hq_callrx_c {d : Nat} {M : zM} {Q : zR → zH → Prop} {X' : Nat → hG → hE → Prop} {pc len r1 r2 : Nat} {ts : List Nat} {lv : List (Nat × Value)} {st : List Value} {g : hG} {e : hE} {pc' : Nat} {as st0 : List Value} (ht : M.2.1 pc = some (68, len, r1, r2, 3, ts)) (hn : pc + len = pc') (hp0 : zpop r2 [] st0 = some (as, st)) (hz : Nat.ble (zsz st) 20 = true) (hX : ∀ y g e, X' y g e → zX Q (fun f => zW (zE d) M Q (f.1, zkp (M.2.2.1 f.1) f.2.1, f.2.2.1, f.2.2.2)) pc lv y (hp g e) M.2.2.2) (H : hcr d r1 as g e (fun (x : Nat) g1 e1 => zW (zE d) M Q (pc', zkp (M.2.2.1 pc') lv, .ref x :: st, hp g1 e1)) X') : zW (zE d) M Q (pc, lv, st0, hp g e) := by
  subst hn
  refine zW_in ?_
  show zs (zE d) M Q _ pc lv _ (hp g e)
  unfold zs
  rw [ht]
  show zo_call (zE d) M Q (zW (zE d) M Q) pc len r1 r2 3 ts lv st0 (hp g e)
  unfold zo_call
  rw [hp0]
  refine And.intro hz (zE_mono H (fun r h2 H => ?_))
  obtain ⟨g1, e1, rfl, H⟩ := H
  rcases r with v | y
  · cases v with
    | none => exact H.elim
    | some v => cases v <;> first | exact ⟨_, rfl, by exact H⟩ | exact H.elim
  · exact hX y g1 e1 H
theorem hq_callvx_c {d : Nat} {M : zM} {Q : zR → zH → Prop} {X' : Nat → hG → hE → Prop} {pc len r1 r2 : Nat} {ts : List Nat} {lv : List (Nat × Value)} {st : List Value} {g : hG} {e : hE} {pc' : Nat} {as st0 : List Value} (ht : M.2.1 pc = some (68, len, r1, r2, 0, ts)) (hn : pc + len = pc') (hp0 : zpop r2 [] st0 = some (as, st)) (hz : Nat.ble (zsz st) 20 = true) (hX : ∀ y g e, X' y g e → zX Q (fun f => zW (zE d) M Q (f.1, zkp (M.2.2.1 f.1) f.2.1, f.2.2.1, f.2.2.2)) pc lv y (hp g e) M.2.2.2) (H : hcv d r1 as g e (fun g1 e1 => zW (zE d) M Q (pc', zkp (M.2.2.1 pc') lv, st, hp g1 e1)) X') : zW (zE d) M Q (pc, lv, st0, hp g e) := by
  subst hn
  refine zW_in ?_
  show zs (zE d) M Q _ pc lv _ (hp g e)
  unfold zs
  rw [ht]
  show zo_call (zE d) M Q (zW (zE d) M Q) pc len r1 r2 0 ts lv st0 (hp g e)
  unfold zo_call
  rw [hp0]
  refine And.intro hz (zE_mono H (fun r h2 H => ?_))
  obtain ⟨g1, e1, rfl, H⟩ := H
  rcases r with v | y
  · cases v with
    | none => exact ⟨rfl, by exact H⟩
    | some v => exact H.elim
  · exact hX y g1 e1 H
theorem h_Xi {k : Int32 → hG → hE → Prop} {X : Nat → hG → hE → Prop} (y : Nat) (g : hG) (e : hE) (h : X y g e) : hqi k X (.inr y) (hp g e) := ⟨g, e, rfl, h⟩
theorem hmonoi {d n : Nat} {as : List Value} {g : hG} {e : hE} {k k' : Int32 → hG → hE → Prop} {X : Nat → hG → hE → Prop} (H : hci d n as g e k X) (h : ∀ x g e, k x g e → k' x g e) : hci d n as g e k' X := by
  refine zE_mono H (fun r h1 H => ?_)
  obtain ⟨g1, e1, rfl, H⟩ := H
  refine ⟨g1, e1, rfl, ?_⟩
  rcases r with v | y
  · cases v with
    | none => exact H.elim
    | some v => cases v <;> first | exact h _ _ _ H | exact H.elim
  · exact H
theorem h_Xj {k : Int64 → hG → hE → Prop} {X : Nat → hG → hE → Prop} (y : Nat) (g : hG) (e : hE) (h : X y g e) : hqj k X (.inr y) (hp g e) := ⟨g, e, rfl, h⟩
theorem hmonoj {d n : Nat} {as : List Value} {g : hG} {e : hE} {k k' : Int64 → hG → hE → Prop} {X : Nat → hG → hE → Prop} (H : hcj d n as g e k X) (h : ∀ x g e, k x g e → k' x g e) : hcj d n as g e k' X := by
  refine zE_mono H (fun r h1 H => ?_)
  obtain ⟨g1, e1, rfl, H⟩ := H
  refine ⟨g1, e1, rfl, ?_⟩
  rcases r with v | y
  · cases v with
    | none => exact H.elim
    | some v => cases v <;> first | exact h _ _ _ H | exact H.elim
  · exact H
theorem h_Xr {k : Nat → hG → hE → Prop} {X : Nat → hG → hE → Prop} (y : Nat) (g : hG) (e : hE) (h : X y g e) : hqr k X (.inr y) (hp g e) := ⟨g, e, rfl, h⟩
theorem hmonor {d n : Nat} {as : List Value} {g : hG} {e : hE} {k k' : Nat → hG → hE → Prop} {X : Nat → hG → hE → Prop} (H : hcr d n as g e k X) (h : ∀ x g e, k x g e → k' x g e) : hcr d n as g e k' X := by
  refine zE_mono H (fun r h1 H => ?_)
  obtain ⟨g1, e1, rfl, H⟩ := H
  refine ⟨g1, e1, rfl, ?_⟩
  rcases r with v | y
  · cases v with
    | none => exact H.elim
    | some v => cases v <;> first | exact h _ _ _ H | exact H.elim
  · exact H
theorem h_Xv {k : hG → hE → Prop} {X : Nat → hG → hE → Prop} (y : Nat) (g : hG) (e : hE) (h : X y g e) : hqv k X (.inr y) (hp g e) := ⟨g, e, rfl, h⟩
theorem hmonov {d n : Nat} {as : List Value} {g : hG} {e : hE} {k k' : hG → hE → Prop} {X : Nat → hG → hE → Prop} (H : hcv d n as g e k X) (h : ∀ g e, k g e → k' g e) : hcv d n as g e k' X := by
  refine zE_mono H (fun r h1 H => ?_)
  obtain ⟨g1, e1, rfl, H⟩ := H
  refine ⟨g1, e1, rfl, ?_⟩
  rcases r with v | y
  · cases v with
    | none => exact h _ _ H
    | some v => exact H.elim
  · exact H
def hD (p : Nat) : Prop := p = 1003 ∨ p = 1015
def hB (p : Nat) : Prop := p = 1027 ∨ p = 1032
def hU (p : Nat) : Prop := p = 1011 ∨ p = 1013 ∨ p = 1023 ∨ p = 1025
def hus (p : Nat) : Nat := bif Nat.ble p 1013 then 1010 else 1022
theorem hDo {p : Nat} (h : hD p) : ∃ fs, hT p = some (.inr (2, fs)) := by rcases h with rfl | rfl <;> exact ⟨_, rfl⟩
theorem hBo {p : Nat} (h : hB p) : ∃ fs, hT p = some (.inr (0, fs)) := by rcases h with rfl | rfl <;> exact ⟨_, rfl⟩
theorem hUo {p : Nat} (h : hU p) : ∃ fs, hT p = some (.inr (4, fs)) := by rcases h with rfl | rfl | rfl | rfl <;> exact ⟨_, rfl⟩
theorem hkD0 {p : Nat} (h : hD p) : hk p 2 0 = some (2, p + 1) := by rcases h with rfl | rfl <;> rfl
theorem hkD1 {p : Nat} (h : hD p) : hk p 2 1 = some (0, 0) := by rcases h with rfl | rfl <;> rfl
theorem hkD2 {p : Nat} (h : hD p) : hk p 2 2 = some (2, p + 6) := by rcases h with rfl | rfl <;> rfl
theorem hkD3 {p : Nat} (h : hD p) : hk p 2 3 = some (0, 0) := by rcases h with rfl | rfl <;> rfl
theorem hkD4 {p : Nat} (h : hD p) : hk p 2 4 = some (2, p + 7) := by rcases h with rfl | rfl <;> rfl
theorem hkD5 {p : Nat} (h : hD p) : hk p 2 5 = some (0, 0) := by rcases h with rfl | rfl <;> rfl
theorem hkD6 {p : Nat} (h : hD p) : hk p 2 6 = some (2, p + 8) := by rcases h with rfl | rfl <;> rfl
theorem hkD7 {p : Nat} (h : hD p) : hk p 2 7 = some (2, p + 10) := by rcases h with rfl | rfl <;> rfl
theorem hkD8 {p : Nat} (h : hD p) : hk p 2 8 = some (0, 0) := by rcases h with rfl | rfl <;> rfl
theorem hkD9 {p : Nat} (h : hD p) : hk p 2 9 = some (0, 0) := by rcases h with rfl | rfl <;> rfl
theorem hTD1 {p : Nat} (h : hD p) : hT (p + 1) = some (.inl (3, 4)) := by rcases h with rfl | rfl <;> rfl
theorem hTD6 {p : Nat} (h : hD p) : hT (p + 6) = some (.inl (0, 8)) := by rcases h with rfl | rfl <;> rfl
theorem hTD7 {p : Nat} (h : hD p) : hT (p + 7) = some (.inl (0, 700)) := by rcases h with rfl | rfl <;> rfl
theorem hUD8 {p : Nat} (h : hD p) : hU (p + 8) := by rcases h with rfl | rfl <;> (unfold hU; omega)
theorem hUD10 {p : Nat} (h : hD p) : hU (p + 10) := by rcases h with rfl | rfl <;> (unfold hU; omega)
theorem hkB0 {p : Nat} (h : hB p) : hk p 0 0 = some (2, p + 1) := by rcases h with rfl | rfl <;> rfl
theorem hkB1 {p : Nat} (h : hB p) : hk p 0 1 = some (0, 0) := by rcases h with rfl | rfl <;> rfl
theorem hkB2 {p : Nat} (h : hB p) : hk p 0 2 = some (2, p + 2) := by rcases h with rfl | rfl <;> rfl
theorem hkB3 {p : Nat} (h : hB p) : hk p 0 3 = some (0, 0) := by rcases h with rfl | rfl <;> rfl
theorem hkB4 {p : Nat} (h : hB p) : hk p 0 4 = some (2, p + 3) := by rcases h with rfl | rfl <;> rfl
theorem hkB5 {p : Nat} (h : hB p) : hk p 0 5 = some (2, p + 4) := by rcases h with rfl | rfl <;> rfl
theorem hTB1 {p : Nat} (h : hB p) : hT (p + 1) = some (.inl (1, 520)) := by rcases h with rfl | rfl <;> rfl
theorem hTB2 {p : Nat} (h : hB p) : hT (p + 2) = some (.inl (0, 8)) := by rcases h with rfl | rfl <;> rfl
theorem hTB3 {p : Nat} (h : hB p) : hT (p + 3) = some (.inl (0, 3)) := by rcases h with rfl | rfl <;> rfl
theorem hTB4 {p : Nat} (h : hB p) : hT (p + 4) = some (.inl (1, 13)) := by rcases h with rfl | rfl <;> rfl
theorem hkU0 {p : Nat} (h : hU p) : hk p 4 0 = some (0, 0) := by rcases h with rfl | rfl | rfl | rfl <;> rfl
theorem hkU1 {p : Nat} (h : hU p) : hk p 4 1 = some (0, 0) := by rcases h with rfl | rfl | rfl | rfl <;> rfl
theorem hkU2 {p : Nat} (h : hU p) : hk p 4 2 = some (0, 0) := by rcases h with rfl | rfl | rfl | rfl <;> rfl
theorem hkU3 {p : Nat} (h : hU p) : hk p 4 3 = some (0, 0) := by rcases h with rfl | rfl | rfl | rfl <;> rfl
theorem hkU4 {p : Nat} (h : hU p) : hk p 4 4 = some (2, p + 1) := by rcases h with rfl | rfl | rfl | rfl <;> rfl
theorem hTU0 {p : Nat} (h : hU p) : hT (hus p) = some (.inl (0, 700)) := by rcases h with rfl | rfl | rfl | rfl <;> rfl
theorem hTU1 {p : Nat} (h : hU p) : hT (p + 1) = some (.inl (0, 40)) := by rcases h with rfl | rfl | rfl | rfl <;> rfl
theorem hT_lo {a : Nat} (h : a < 1000) : hT a = none := by
  cases q : hT a with
  | none => rfl
  | some s => have := hT_ge q; omega
theorem hcell_lo {g : hG} {e : hE} {a : Nat} (h : a < 1000) : zcl (hp g e) a = hsc e.2.2.2 (g.1 997) a := by
  show hcell g e a = _
  unfold hcell
  rw [hT_lo h]
theorem htx_o {g : hG} {e : hE} {a : Nat} (h : a < 58 ∧ a % 2 = 0) : zcl (hp g e) a = some (.inr (9, [.ref (a + 1), .int 0])) := by
  rw [hcell_lo (by omega)]
  unfold hsc
  rw [if_neg (by omega), if_pos h.1, if_pos h.2]
theorem htx_b {g : hG} {e : hE} {a : Nat} (h : a < 58 ∧ a % 2 = 1) : zcl (hp g e) a = some (.inl (2, (htx (a / 2)).length, .inl (fun j => nI ((htx (a / 2)).getD j 0)))) := by
  rw [hcell_lo (by omega)]
  unfold hsc
  rw [if_neg (by omega), if_pos h.1, if_neg (by omega)]
theorem htxO {a : Nat} (h : a < 58 ∧ a % 2 = 0) : a + 1 < 58 ∧ (a + 1) % 2 = 1 := by omega
theorem htxV {g : hG} {e : hE} {a : Nat} (h : a < 58 ∧ a % 2 = 0) : zgf (hp g e) a 9 0 = some (.ref (a + 1)) := by
  unfold zgf
  rw [htx_o h]
  rfl
theorem htxC {g : hG} {e : hE} {a : Nat} (h : a < 58 ∧ a % 2 = 0) : zgf (hp g e) a 9 1 = some (.int 0) := by
  unfold zgf
  rw [htx_o h]
  rfl
theorem htxL {g : hG} {e : hE} {a : Nat} (h : a < 58 ∧ a % 2 = 1) : zal (hp g e) a = some (nI (htx (a / 2)).length) := by
  unfold zal
  rw [htx_b h]
  rfl
theorem htxB {g : hG} {e : hE} {a : Nat} {i : Int32} (h : a < 58 ∧ a % 2 = 1) (hi : hin i (htx (a / 2)).length) : zba (hp g e) a i = some (nI ((htx (a / 2)).getD i.toNatClampNeg 0)) := by
  unfold zba
  rw [htx_b h]
  exact if_neg hi
theorem hscL {g : hG} {e : hE} : zal (hp g e) 997 = some (nI e.2.2.2) := by
  unfold zal
  rw [hcell_lo (by omega)]
  rfl
theorem hscB {g : hG} {e : hE} {i : Int32} (hi : hin i e.2.2.2) : zia (hp g e) 997 i = some (g.1 997 i.toNatClampNeg) := by
  unfold zia
  rw [hcell_lo (by omega)]
  exact if_neg hi
