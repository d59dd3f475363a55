/-! NOTES: zip, place, days, closed; forced and look in the class -/
abbrev sN : Type := Nat × Nat × Nat × Nat
def ncode (n : sN) : Nat := n.1 * 1024 + n.2.1 * 64 + n.2.2.1 * 2 + n.2.2.2
def wfn (nz : Nat) (nt : List sN) : Prop := nt.length ≤ 8 ∧ ∀ n, n ∈ nt → n.1 < nz ∧ n.2.1 < 16 ∧ n.2.2.1 ≤ 20 ∧ n.2.2.2 ≤ 1
def cnt (g : hG) (B : Nat) (nt : List sN) : Prop := g.1 B 3 = nI nt.length ∧ ∀ i n, nt[i]? = some n → g.1 (B + 2) i = nI (ncode n)
theorem nc_dec0 : ∀ a, a < 64 → ∀ b, b < 64 → nI (64 * a + b) >>> ((10 : Int32) &&& 31) = nI ((64 * a + b) / 1024) ∧ (nI (64 * a + b) >>> ((6 : Int32) &&& 31)) &&& 15 = nI ((64 * a + b) / 64 % 16) ∧ (nI (64 * a + b) >>> ((1 : Int32) &&& 31)) &&& 31 = nI ((64 * a + b) / 2 % 32) ∧ nI (64 * a + b) &&& 1 = nI ((64 * a + b) % 2) := by decide +kernel
theorem nc_dec (m : Nat) (h : m < 4096) : nI m >>> ((10 : Int32) &&& 31) = nI (m / 1024) ∧ (nI m >>> ((6 : Int32) &&& 31)) &&& 15 = nI (m / 64 % 16) ∧ (nI m >>> ((1 : Int32) &&& 31)) &&& 31 = nI (m / 2 % 32) ∧ nI m &&& 1 = nI (m % 2) := by
  have := nc_dec0 (m / 64) (by omega) (m % 64) (by omega)
  rw [Nat.div_add_mod] at this
  exact this
theorem nc_e1 : ∀ a, a < 4 → ∀ b, b < 16 → (nI a <<< ((10 : Int32) &&& 31)) ||| (nI b <<< ((6 : Int32) &&& 31)) = nI (64 * (16 * a + b)) := by decide +kernel
theorem nc_e2 : ∀ m, m < 64 → ∀ c, c < 32 → nI (64 * m) ||| (nI c <<< ((1 : Int32) &&& 31)) = nI (2 * (32 * m + c)) := by decide +kernel
theorem nc_e3 : ∀ m, m < 2048 → ∀ f, f < 2 → nI (2 * m) ||| nI f = nI (2 * m + f) := by decide +kernel
theorem nc_all (a : Nat) (ha : a < 4) (b : Nat) (hb : b < 16) (c : Nat) (hc : c < 21) (f : Nat) (hf : f < 2) : nI (a * 1024 + b * 64 + c * 2 + f) >>> ((10 : Int32) &&& 31) = nI a ∧ (nI (a * 1024 + b * 64 + c * 2 + f) >>> ((6 : Int32) &&& 31)) &&& 15 = nI b ∧ (nI (a * 1024 + b * 64 + c * 2 + f) >>> ((1 : Int32) &&& 31)) &&& 31 = nI c ∧ nI (a * 1024 + b * 64 + c * 2 + f) &&& 1 = nI f ∧ (((nI a <<< ((10 : Int32) &&& 31)) ||| (nI b <<< ((6 : Int32) &&& 31))) ||| (nI c <<< ((1 : Int32) &&& 31))) ||| nI f = nI (a * 1024 + b * 64 + c * 2 + f) := by
  obtain ⟨h1, h2, h3, h4⟩ := nc_dec (a * 1024 + b * 64 + c * 2 + f) (by omega)
  rw [h1, h2, h3, h4, nc_e1 a ha b hb, nc_e2 _ (by omega) c (by omega), nc_e3 _ (by omega) f hf]
  refine ⟨?_, ?_, ?_, ?_, ?_⟩ <;> congr 1 <;> omega
/-- a note is so -/
abbrev nok (x : sX) (n : sN) : Prop := bt (xgo x n.2.2.1 x.2.2.2.2.2 (x.2.1 n.1)).2.2.2.2.1 n.2.1 = decide (n.2.2.2 = 1)
def nall (x : sX) (nt : List sN) : Bool := nt.all (fun n => decide (nok x n))
theorem nall_t {x : sX} {nt : List sN} : nall x nt = true ↔ ∀ n, n ∈ nt → nok x n := by
  unfold nall
  rw [List.all_eq_true]
  exact ⟨fun h n hn => of_decide_eq_true (h n hn), fun h n hn => decide_eq_true (h n hn)⟩
/-- with other strains -/
def xst (x : sX) (sl : List Nat) : sX := (x.1, x.2.1, sl, x.2.2.2.1, x.2.2.2.2.1, x.2.2.2.2.2)
def xso (x : sX) (c : Nat) : sX := xst x (x.2.2.1.set (c / 10) (c % 10))
def sfo (x : sX) (nt : List sN) (c : Nat) : Bool := !decide (x.2.2.1.getD (c / 10) 0 = c % 10) && nall (xso x c) nt
def sfl (x : sX) (nt : List sN) : Nat → List Nat
  | 0 => []
  | c + 1 => if sfo x nt c = true then sfl x nt c ++ [c] else sfl x nt c
def o_forced (x : sX) (nt : List sN) (w : Int32) : rs := if iszb 3 w then .inl (if w = 2 then bI (nall x nt) else if w = 0 then nI (sfl x nt (10 * x.2.2.1.length)).length else match (sfl x nt (10 * x.2.2.1.length)).head? with
  | none => -1
  | some c => nI c) else .inr 1
theorem sfl_le {x : sX} {nt : List sN} : ∀ c, (sfl x nt c).length ≤ c
  | 0 => Nat.le_refl _
  | c + 1 => by
    have := sfl_le (x := x) (nt := nt) c
    unfold sfl
    split
    · rw [List.length_append]; show _ + 1 ≤ _; omega
    · omega
theorem sgo_end {pl wl : List tk} {sl : List Nat} : ∀ (n t : Nat) (s : sZ), sgo pl wl sl (n + 1) t s = (sd1 pl wl sl (t + n) (sgo pl wl sl n t s)).1
  | 0, t, s => rfl
  | n + 1, t, s => by
    have := sgo_end (pl := pl) (wl := wl) (sl := sl) n (t + 1) (sd1 pl wl sl t s).1
    rw [show sgo pl wl sl (n + 1 + 1) t s = sgo pl wl sl (n + 1) (t + 1) (sd1 pl wl sl t s).1 from rfl, this, show t + 1 + n = t + (n + 1) by omega]
    rfl
theorem sstr_set {sl : List Nat} {w o t : Nat} (h8 : sl.length ≤ 8) (hw : w < sl.length) : nI (sstr (sl.set w o) t) = if sl = [] then 4 else if nI (t % sl.length) = nI w then nI o else nI (sl.getD (t % sl.length) 0) := by
  have hl : ¬ sl = [] := by rintro rfl; exact absurd hw (Nat.not_lt_zero _)
  have hlt : t % sl.length < sl.length := Nat.mod_lt _ (by omega)
  unfold sstr
  rw [if_neg (by rw [← List.length_eq_zero_iff, List.length_set]; omega), if_neg hl, List.length_set]
  by_cases c : t % sl.length = w
  · rw [c, if_pos rfl, List.getD_eq_getElem?_getD, List.getElem?_set_self hw]
    rfl
  · by_cases c2 : nI (t % sl.length) = nI w
    · exact absurd ((nI_eq (by omega) (by omega)).mp c2) c
    · rw [if_neg c2, List.getD_eq_getElem?_getD, List.getElem?_set_ne (fun z => c z.symm), List.getD_eq_getElem?_getD]
section
variable {d : Nat} {k : Int32 → hG → hE → Prop} {kv : hG → hE → Prop} {X : Nat → hG → hE → Prop} {g : hG} {e : hE} {D : Nat} {x : sX} {nt : List sN}
theorem cnt_qf {g' : hG} (hD' : hD D) (h : qf D g g') (hn : cnt g 1027 nt) : cnt g' 1027 nt := by
  have hl := hD_lt hD'
  unfold cnt
  rw [h.1 1027 (by omega) (by omega) (by omega) (by omega), h.1 (1027 + 2) (by omega) (by omega) (by omega) (by omega)]
  exact hn
theorem wfn_c (hw : wfn x.1 nt) (h4 : x.1 ≤ 4) {n : sN} (hn : n ∈ nt) : nI (ncode n) >>> ((10 : Int32) &&& 31) = nI n.1 ∧ (nI (ncode n) >>> ((6 : Int32) &&& 31)) &&& 15 = nI n.2.1 ∧ (nI (ncode n) >>> ((1 : Int32) &&& 31)) &&& 31 = nI n.2.2.1 ∧ nI (ncode n) &&& 1 = nI n.2.2.2 := by
  obtain ⟨a, b, c, f⟩ := hw.2 n hn
  obtain ⟨h1, h2, h3, h5, -⟩ := nc_all n.1 (by omega) n.2.1 b n.2.2.1 (by omega) n.2.2.2 (by omega)
  exact ⟨h1, h2, h3, h5⟩
def nla (nt : List sN) (z : Nat) : Nat → Nat
  | 0 => 0
  | j + 1 => match nt[j]? with
    | some n => if n.1 = z then max (nla nt z j) (n.2.2.1 + 1) else nla nt z j
    | none => nla nt z j
theorem nla_ge {z : Nat} : ∀ (j i : Nat) (n : sN), i < j → nt[i]? = some n → n.1 = z → n.2.2.1 < nla nt z j
  | j + 1, i, n, hi, hn, hz => by
    unfold nla
    by_cases c : i = j
    · subst c
      rw [hn]
      show _ < if n.1 = z then _ else _
      rw [if_pos hz]
      omega
    · have ih := nla_ge j i n (by omega) hn hz
      split
      · split
        · omega
        · exact ih
      · exact ih
theorem nla_le {z : Nat} (hw : wfn x.1 nt) : ∀ j, nla nt z j ≤ 21
  | 0 => by show 0 ≤ _; omega
  | j + 1 => by
    have ih := nla_le (z := z) hw j
    unfold nla
    split
    · rename_i n hn
      have := (hw.2 n (List.mem_of_getElem? hn)).2.2.1
      split
      · omega
      · exact ih
    · exact ih
theorem c_lastNoted (hn : cnt g 1027 nt) (hw : wfn x.1 nt) (h4 : x.1 ≤ 4) {z : Nat} (hz : z < 4) (H : k (iI ((nla nt z nt.length : Int) - 1)) g e) : hci (d + 2) 31 [.ref 1027, .int (nI z)] g e k X := by
  have hl := hw.1
  have hB' : hB 1027 := Or.inl rfl
  refine zh_X0_lastNoted hB' ?_
  refine hdown (W := fun j => hwi (d + 1) zm_X0_lastNoted k X 4 [(0, .ref 1027), (1, .int (nI z)), (2, .int (iI ((nla nt z j : Int) - 1))), (3, .int (nI j))] g e) (n := nt.length) ?_ ?_ 0 (Nat.zero_le _)
  · exact zh_X0_lastNoted_4 hB' (zbr_t (by rw [hn.1]; exact nI_le (Nat.le_refl _) (by omega)) H)
  · intro j hj W
    have hg : nt[j]? = some nt[j] := List.getElem?_eq_getElem hj
    have hm : nt[j] ∈ nt := List.getElem_mem hj
    obtain ⟨w1, w2, w3, w5⟩ := wfn_c hw h4 hm
    obtain ⟨u1, u2, u3, u5⟩ := hw.2 _ hm
    refine zh_X0_lastNoted_4 hB' (zbr_f (by rw [hn.1]; exact nI_ge hj (by omega)) (zbr_f (nI_ge (by omega) (by omega)) ⟨nI_in (by omega) (by omega), ?_⟩))
    rw [nI_clamp (by omega), hn.2 j _ hg, w1, w3, nI_1]
    have un : nla nt z (j + 1) = if (nt[j]).1 = z then max (nla nt z j) ((nt[j]).2.2.1 + 1) else nla nt z j := by
      show (match nt[j]? with | some n => if n.1 = z then max (nla nt z j) (n.2.2.1 + 1) else nla nt z j | none => nla nt z j) = _
      rw [hg]
    have b1 := nla_le (x := x) (z := z) hw j
    refine ⟨fun c => ⟨nI_in (by omega) (by omega), c_max ?_⟩, fun c => ?_⟩
    · rw [if_pos ((nI_eq (by omega) (by omega)).mp c)] at un
      rw [iI_nI (nt[j]).2.2.1, imx_iI (by omega) (by omega) (by omega) (by omega), show max ((nla nt z j : Int) - 1) ((nt[j]).2.2.1 : Int) = ((nla nt z (j + 1) : Nat) : Int) - 1 by rw [un]; omega]
      exact W
    · rw [if_neg (fun q => c (by rw [q]))] at un
      rw [un] at W
      exact W
theorem c_agrees (hn : cnt g 1027 nt) (hw : wfn x.1 nt) (h4 : x.1 ≤ 4) {z b : Nat} (hz : z < 4) (hb : b ≤ 21) {C : Int32} (H1 : (∀ n, n ∈ nt → n.1 = z → n.2.2.1 = b → bt C n.2.1 = decide (n.2.2.2 = 1)) → k 1 g e) (H0 : (∃ n, n ∈ nt ∧ n.1 = z ∧ n.2.2.1 = b ∧ ¬ bt C n.2.1 = decide (n.2.2.2 = 1)) → k 0 g e) : hci (d + 2) 32 [.ref 1027, .int (nI z), .int (nI b), .int C] g e k X := by
  have hl := hw.1
  have hB' : hB 1027 := Or.inl rfl
  refine zh_X0_agrees hB' ?_
  have : ∀ j, j ≤ nt.length → (∀ i n, i < j → nt[i]? = some n → n.1 = z → n.2.2.1 = b → bt C n.2.1 = decide (n.2.2.2 = 1)) → hwi (d + 1) zm_X0_agrees k X 3 [(0, .ref 1027), (1, .int (nI z)), (2, .int (nI b)), (3, .int C), (4, .int (nI j))] g e := by
    refine hdown ?_ ?_
    · intro A
      refine zh_X0_agrees_3 hB' (zbr_t (by rw [hn.1]; exact nI_le (Nat.le_refl _) (by omega)) (H1 (fun n hm q1 q2 => ?_)))
      obtain ⟨i, hi⟩ := List.getElem?_of_mem hm
      exact A i n (List.getElem?_eq_some_iff.mp hi).1 hi q1 q2
    · intro j hj W A
      have hg : nt[j]? = some nt[j] := List.getElem?_eq_getElem hj
      have hm : nt[j] ∈ nt := List.getElem_mem hj
      obtain ⟨w1, w2, w3, w5⟩ := wfn_c hw h4 hm
      obtain ⟨u1, u2, u3, u5⟩ := hw.2 _ hm
      refine zh_X0_agrees_3 hB' (zbr_f (by rw [hn.1]; exact nI_ge hj (by omega)) (zbr_f (nI_ge (by omega) (by omega)) ⟨nI_in (by omega) (by omega), ?_⟩))
      rw [nI_clamp (by omega), hn.2 j _ hg, w1, w3, w2, w5, nI_1]
      generalize hnn : nt[j] = n at *
      have nx : (n.1 = z → n.2.2.1 = b → bt C n.2.1 = decide (n.2.2.2 = 1)) → hwi (d + 1) zm_X0_agrees k X 3 [(0, .ref 1027), (1, .int (nI z)), (2, .int (nI b)), (3, .int C), (4, .int (nI (j + 1)))] g e := by
        intro h
        refine W (fun i n' hi hn' => ?_)
        by_cases c : i = j
        · subst c
          rw [hg] at hn'
          rw [← Option.some.inj hn']
          exact h
        · exact A i n' (by omega) hn'
      have skip : ¬ (n.1 = z ∧ n.2.2.1 = b) → ∀ v, hwi (d + 1) zm_X0_agrees k X 55 [(0, .ref 1027), (1, .int (nI z)), (2, .int (nI b)), (3, .int C), (4, .int (nI j)), (5, .int v)] g e := by
        intro h v
        refine zh_X0_agrees_55 hB' (zbr_t rfl ?_)
        rw [nI_1]
        exact nx (fun a b => absurd ⟨a, b⟩ h)
      refine ⟨fun c => ⟨fun c2 => zbr_f (by decide) ?_, fun c2 => skip (fun q => c2 (by rw [q.2])) _⟩, fun c => skip (fun q => c (by rw [q.1])) _⟩
      have z1 : n.1 = z := (nI_eq (by omega) (by omega)).mp c
      have z2 : n.2.2.1 = b := (nI_eq (by omega) (by omega)).mp c2
      rw [bt_shr (by omega)]
      have key : (if bt C n.2.1 = true then (1 : Int32) else 0) = nI n.2.2.2 ↔ bt C n.2.1 = decide (n.2.2.2 = 1) := by
        rcases (show n.2.2.2 = 0 ∨ n.2.2.2 = 1 by omega) with q | q <;> rw [q] <;> cases bt C n.2.1 <;> decide
      exact ⟨fun c3 => nx (fun _ _ => key.mp c3), fun c3 => H0 ⟨n, hm, z1, z2, fun q => c3 (key.mpr q)⟩⟩
  exact this 0 (Nat.zero_le _) (fun i n h => absurd h (by omega))
/-- a question that leaves the row of its own alone -/
def qg (D : Nat) (g g' : hG) : Prop := qf D g g' ∧ g'.1 1042 = g.1 1042
theorem qg.refl {D : Nat} {g : hG} : qg D g g := ⟨qf.refl, rfl⟩
theorem qg.trans {D : Nat} {g g' g'' : hG} (h : qg D g g') (h' : qg D g' g'') : qg D g g'' := ⟨h.1.trans h'.1, h'.2.trans h.2⟩
theorem qg_pf {D i : Nat} {g g' : hG} (hD' : hD D) (hi : i < 4) (h : pf D (1038 + i) g g') : qg D g g' := ⟨qf_pf hi h, h.1 1042 (by omega) (by have := hD_lt hD'; omega) (by have := hD_lt hD'; omega) (by have := hD_lt hD'; omega)⟩
theorem c_trialG {kr : Nat → hG → hE → Prop} (hc : cdr g D x) (hr : hrm e) {z : Int32} (H : ∀ i, i < x.1 → z = nI i → ∀ g', qg D g g' → ct x.2.2.2.1 g' (1038 + i) (x.2.1 i) → kr (1038 + i) g' e) (HX : ¬ isz x.1 z → X 1 g (hth e)) : hcr (d + 4) 207 [.ref 1000, .int z] g e kr X := by
  have h4 := hc.2.1.2
  have hl := hD_lt hc.1.1
  refine zh_X7_trialOf (c_theZip hc hr (fun i hi hz => ?_) HX)
  subst hz
  have hct := hc.2.2.1 i hi
  refine ⟨hT_zip hc.1.1 (by omega), c_trialAt (by omega) ⟨hT_trial (by omega), c_copyOf (hT_trial (by omega)) (hT_zip hc.1.1 (by omega)) (by omega) (ct_coil hct) ?_⟩⟩
  refine H i hi rfl _ ⟨qf_zp hc.1.1 (by omega) _, va_up_off _ _ (by omega)⟩ ?_
  unfold ct
  rw [zg_zp]
  exact hct
theorem c_notedSo {w o : Int32} {sl : List Nat} (hsl : ∀ t, sstr sl t ≤ 9) (hst : ∀ (d t : Nat) (g : hG) (k : Int32 → hG → hE → Prop), t < 2 ^ 31 → cdr g D x → k (nI (sstr sl t)) g e → hci (d + 2) 54 [.ref D, .int (nI t), .int w, .int o] g e k X) (hc : cdr g D x) (hr : hrm e) (hn : cnt g 1027 nt) (hw : wfn x.1 nt) {z : Nat} (hz : z < x.1) (H1 : ∀ g', qg D g g' → (∀ n, n ∈ nt → n.1 = z → nok (xst x sl) n) → k 1 g' e) (H0 : ∀ g', qg D g g' → (∃ n, n ∈ nt ∧ n.1 = z ∧ ¬ nok (xst x sl) n) → k 0 g' e) : hci (d + 6) 186 [.ref 1000, .int (nI z), .int w, .int o] g e k X := by
  have h4 := hc.2.1.2
  have ht := hc.2.2.2.2.2.2
  have hD' := hc.1.1
  refine zh_X7_notedSo (c_lastNoted hn hw h4 (by omega) (c_trialG hc hr (fun i hi hv g1 q1 c1 => ?_) (fun h => absurd ⟨z, hz, rfl⟩ h)))
  have := (nI_eq (by omega) (by omega)).mp hv
  subst this
  have hT := hT_trial (show z < 4 by omega)
  refine ⟨hT, ?_⟩
  have lb := nla_le (x := x) (z := z) hw nt.length
  have lg : ∀ n, n ∈ nt → n.1 = z → n.2.2.1 < nla nt z nt.length := by
    intro n hm hz
    obtain ⟨i, hi⟩ := List.getElem?_of_mem hm
    exact nla_ge nt.length i n (List.getElem?_eq_some_iff.mp hi).1 hi hz
  generalize nla nt z nt.length = L at *
  have : ∀ b, b ≤ L → ∀ g2, qg D g g2 → ct x.2.2.2.1 g2 (1038 + z) (sgo x.2.2.2.1 x.2.2.2.2.1 sl (if b = L then L - 1 else b) x.2.2.2.2.2 (x.2.1 z)) → (∀ n, n ∈ nt → n.1 = z → n.2.2.1 < b → nok (xst x sl) n) → hwi (d + 5) zm_X7_notedSo k X 20 [(0, .ref 1000), (1, .int (nI z)), (2, .int w), (3, .int o), (4, .int (iI ((L : Int) - 1))), (5, .ref (1038 + z)), (6, .int (nI b))] g2 e := by
    refine hdown ?_ ?_
    · intro g2 q2 c2 A
      refine zh_X7_notedSo_20 hT (zbr_t (by rw [iI_nI]; exact (iI_lt (by omega) (by omega) (by omega) (by omega)).mpr (by omega)) (H1 g2 q2 (fun n hm hz => A n hm hz (lg n hm hz))))
    · intro b hb W g2 q2 c2 A
      rw [if_neg (by omega)] at c2
      have hc2 := cdr_qf q2.1 hc
      refine zh_X7_notedSo_20 hT (zbr_f (by rw [iI_nI]; exact fun q => absurd ((iI_lt (by omega) (by omega) (by omega) (by omega)).mp q) (by omega)) (c_closedBits hT (c_agrees (cnt_qf hD' q2.1 hn) hw h4 (by omega) (by omega) (fun Y => ?_) (fun Y => ?_))))
      · refine zbr_f (by decide) ?_
        rw [hc2.1.2]
        refine ⟨hD', zh_X2_today hD' ?_⟩
        rw [hc2.2.2.2.2.2.1, nI_add, nI_1]
        have A' : ∀ n, n ∈ nt → n.1 = z → n.2.2.1 < b + 1 → nok (xst x sl) n := by
          intro n hm hz hlt
          by_cases c : n.2.2.1 = b
          · have := Y n hm hz c
            rw [c2.1.2.2.2.2.1] at this
            unfold nok
            rw [c, hz]
            exact this
          · exact A n hm hz (by omega)
        refine ⟨fun c => W g2 q2 ?_ A', fun c => ?_⟩
        · have : b + 1 = L := by
            rw [iI_nI] at c
            have := (iI_le (by omega) (by omega) (by omega) (by omega)).mp c
            omega
          rw [if_pos this, show L - 1 = b by omega]
          exact c2
        · have nl : ¬ b + 1 = L := by
            intro q
            apply c
            rw [iI_nI]
            exact (iI_le (by omega) (by omega) (by omega) (by omega)).mpr (by omega)
          rw [hc2.1.2]
          refine ⟨hD', hD', hst _ _ _ _ (by omega) hc2 (c_passD hc2 (by omega) c2 (by have := hsl (x.2.2.2.2.2 + b); omega) (fun g3 p3 c3 _ => W g3 (q2.trans (qg_pf hD' (by omega) p3)) ?_ A'))⟩
          rw [if_neg nl, sgo_end]
          exact c3
      · obtain ⟨n, y1, y2, y3, y4⟩ := Y
        refine zbr_t rfl (H0 g2 q2 ⟨n, y1, y2, fun q => y4 ?_⟩)
        rw [c2.1.2.2.2.2.1]
        unfold nok at q
        rw [y3, y2] at q
        exact q
  refine this 0 (Nat.zero_le _) g1 q1 ?_ (fun n _ _ h => absurd h (Nat.not_lt_zero _))
  have : (if 0 = L then L - 1 else 0) = 0 := by split <;> omega
  rw [this]
  exact c1
theorem c_isSoWithout (hc : cdr g D x) (hr : hrm e) (hn : cnt g 1027 nt) (hw : wfn x.1 nt) (H : ∀ g', qg D g g' → k (bI (nall x nt)) g' e) : hci (d + 7) 185 [.ref 1000] g e k X := by
  have h4 := hc.2.1.2
  have hD' := hc.1.1
  refine zh_X7_isSoWithout ?_
  have hst : ∀ (d t : Nat) (g : hG) (k : Int32 → hG → hE → Prop), t < 2 ^ 31 → cdr g D x → k (nI (sstr x.2.2.1 t)) g e → hci (d + 2) 54 [.ref D, .int (nI t), .int (-1), .int 0] g e k X := by
    intro d t g k ht hc H
    refine c_strainWith hc ht ?_
    unfold sstr at H
    by_cases hl : x.2.2.1 = []
    · rw [if_pos hl] at H ⊢
      exact H
    · rw [if_neg hl] at H ⊢
      have hlen : 0 < x.2.2.1.length := List.length_pos_iff.mpr hl
      have hlt : t % x.2.2.1.length < x.2.2.1.length := Nat.mod_lt _ hlen
      have h7 := hc.2.2.2.1.2.1
      rw [if_neg (show ¬ nI (t % x.2.2.1.length) = -1 from nneg (c := 1) (by omega) (by omega) (by omega))]
      exact H
  have : ∀ i, i ≤ x.1 → ∀ g1, qg D g g1 → (∀ n, n ∈ nt → n.1 < i → nok x n) → hwi (d + 6) zm_X7_isSoWithout k X 2 [(0, .ref 1000), (1, .int (nI i))] g1 e := by
    refine hdown ?_ ?_
    · intro g1 q1 A
      have hc1 := cdr_qf q1.1 hc
      refine zh_X7_isSoWithout_2 ?_
      rw [hc1.1.2]
      refine ⟨hD', zh_X2_zipCount hD' (zbr_t (by rw [hc1.2.1.1]; exact nI_le (Nat.le_refl _) (by omega)) ?_)⟩
      have := H g1 q1
      rw [nall_t.mpr (fun n hm => A n hm (hw.2 n hm).1)] at this
      exact this
    · intro i hi W g1 q1 A
      have hc1 := cdr_qf q1.1 hc
      refine zh_X7_isSoWithout_2 ?_
      rw [hc1.1.2]
      refine ⟨hD', zh_X2_zipCount hD' (zbr_f (by rw [hc1.2.1.1]; exact nI_ge hi (by omega)) (c_notedSo (sl := x.2.2.1) (sstr_le hc.2.2.2.1.2.2.2) hst hc1 hr (cnt_qf hD' q1.1 hn) hw hi (fun g2 q2 Y => zbr_f (by decide) ?_) (fun g2 q2 Y => zbr_t rfl ?_)))⟩
      · rw [nI_1]
        refine W g2 (q1.trans q2) (fun n hm hlt => ?_)
        by_cases c : n.1 = i
        · exact Y n hm c
        · exact A n hm (by omega)
      · obtain ⟨n, y1, y2, y3⟩ := Y
        have := H g2 (q1.trans q2)
        rw [show nall x nt = false by
          cases q : nall x nt with
          | false => rfl
          | true => exact absurd (nall_t.mp q n y1) y3] at this
        exact this
  exact this 0 (Nat.zero_le _) g qg.refl (fun n _ h => absurd h (Nat.not_lt_zero _))
theorem c_strainSet (hc : cdr g D x) {t w o : Nat} (hw : w < x.2.2.1.length) (ht : t < 2 ^ 31) (H : k (nI (sstr (x.2.2.1.set w o) t)) g e) : hci (d + 2) 54 [.ref D, .int (nI t), .int (nI w), .int (nI o)] g e k X := by
  rw [sstr_set hc.2.2.2.1.2.1 hw] at H
  exact c_strainWith hc ht H
theorem sstr_set9 {sl : List Nat} (h : ∀ w, w ∈ sl → w ≤ 9) {w o : Nat} (ho : o ≤ 9) (t : Nat) : sstr (sl.set w o) t ≤ 9 := by
  refine sstr_le (fun v hv => ?_) t
  rcases List.mem_or_eq_of_mem_set hv with h1 | h1
  · exact h v h1
  · omega
theorem c_isForced (hc : cdr g D x) (hr : hrm e) (hn : cnt g 1027 nt) (hw : wfn x.1 nt) {c : Nat} (hcl : c < 10 * x.2.2.1.length) (H : ∀ g', qg D g g' → k (bI (sfo x nt c)) g' e) : hci (d + 7) 184 [.ref 1000, .int (nI c)] g e k X := by
  have h4 := hc.2.1.2
  have hD' := hc.1.1
  obtain ⟨h6, h7, h8, h9⟩ := hc.2.2.2.1
  have hq : c / 10 < x.2.2.1.length := by omega
  have e10 : nI c / 10 = nI (c / 10) := pk_div (d := 10) (by omega) (by omega) (by omega)
  have er : nI c - nI c / 10 * 10 = nI (c % 10) := pk_rem (d := 10) (by omega) (by omega) (by omega)
  refine zh_X7_isForced ?_
  rw [hc.1.2, er, e10]
  refine ⟨hD', zh_X2_strainAt hD' (zbr_f (nI_pos (by omega)) (zbr_f (by rw [h6]; exact nI_ge hq (by omega)) (zbr_f (nI_ge (by omega) (by omega)) ⟨nI_in (by omega) (by omega), ?_⟩)))⟩
  have gq : x.2.2.1[c / 10]? = some x.2.2.1[c / 10] := List.getElem?_eq_getElem hq
  have v9 : x.2.2.1[c / 10] ≤ 9 := h9 _ (List.getElem_mem hq)
  rw [nI_clamp (by omega), h8 _ _ gq]
  unfold sfo at H
  rw [List.getD_eq_getElem?_getD, gq] at H
  have m10 : c % 10 < 10 := Nat.mod_lt _ (by omega)
  refine ⟨fun c1 => ?_, fun c1 => ?_⟩
  · have := H g qg.refl
    rw [show decide ((some x.2.2.1[c / 10]).getD 0 = c % 10) = true from decide_eq_true (show x.2.2.1[c / 10] = c % 10 from (nI_eq (by omega) (by omega)).mp c1)] at this
    exact this
  · rw [show decide ((some x.2.2.1[c / 10]).getD 0 = c % 10) = false from decide_eq_false (fun q => c1 (by rw [show x.2.2.1[c / 10] = c % 10 from q])), Bool.not_false, Bool.true_and] at H
    have : ∀ i, i ≤ x.1 → ∀ g1, qg D g g1 → (∀ n, n ∈ nt → n.1 < i → nok (xso x c) n) → hwi (d + 6) zm_X7_isForced k X 27 [(0, .ref 1000), (2, .int (nI (c / 10))), (3, .int (nI (c % 10))), (4, .int (nI i))] g1 e := by
      refine hdown ?_ ?_
      · intro g1 q1 A
        have hc1 := cdr_qf q1.1 hc
        refine zh_X7_isForced_27 ?_
        rw [hc1.1.2]
        refine ⟨hD', zh_X2_zipCount hD' (zbr_t (by rw [hc1.2.1.1]; exact nI_le (Nat.le_refl _) (by omega)) ?_)⟩
        have := H g1 q1
        rw [nall_t.mpr (fun n hm => A n hm (hw.2 n hm).1)] at this
        exact this
      · intro i hi W g1 q1 A
        have hc1 := cdr_qf q1.1 hc
        refine zh_X7_isForced_27 ?_
        rw [hc1.1.2]
        refine ⟨hD', zh_X2_zipCount hD' (zbr_f (by rw [hc1.2.1.1]; exact nI_ge hi (by omega)) (c_notedSo (sl := x.2.2.1.set (c / 10) (c % 10)) (sstr_set9 h9 (by omega)) (fun d t g k ht hc H => c_strainSet hc hq ht H) hc1 hr (cnt_qf hD' q1.1 hn) hw hi (fun g2 q2 Y => zbr_f (by decide) ?_) (fun g2 q2 Y => zbr_t rfl ?_)))⟩
        · rw [nI_1]
          refine W g2 (q1.trans q2) (fun n hm hlt => ?_)
          by_cases c : n.1 = i
          · exact Y n hm c
          · exact A n hm (by omega)
        · obtain ⟨n, y1, y2, y3⟩ := Y
          have := H g2 (q1.trans q2)
          rw [show nall (xso x c) nt = false by
            cases q : nall (xso x c) nt with
            | false => rfl
            | true => exact absurd (nall_t.mp q n y1) y3] at this
          exact this
    exact this 0 (Nat.zero_le _) g qg.refl (fun n _ h => absurd h (Nat.not_lt_zero _))
theorem cq_forced (hc : cdr g D x) (hr : hrm e) (hn : cnt g 1027 nt) (hw : wfn x.1 nt) {w : Int32} (H : ∀ g', qf D g g' → oc (o_forced x nt w) k X g' e) : hci (d + 8) 183 [.ref 1000, .int w] g e k X := by
  have h4 := hc.2.1.2
  have hD' := hc.1.1
  have h7 := hc.2.2.2.1.2.1
  refine zh_X7_forced (c_checkWhat hr (n := 3) (by omega) (fun v hv hv' => ?_) (fun h => oc_r (H g qf.refl) (by unfold o_forced; rw [iszb_f (n := 3) (by omega) h]; rfl)))
  subst hv'
  have ho : o_forced x nt (nI v) = .inl (if nI v = 2 then bI (nall x nt) else if nI v = 0 then nI (sfl x nt (10 * x.2.2.1.length)).length else match (sfl x nt (10 * x.2.2.1.length)).head? with
    | none => -1
    | some c => nI c) := by
    unfold o_forced
    rw [iszb_t (n := 3) (by omega) hv]
    rfl
  have K : ∀ g', qf D g g' → k _ g' e := fun g' q => oc_l (H g' q) ho
  clear H
  refine ⟨fun c => c_isSoWithout hc hr hn hw (fun g1 q1' => ?_), fun c => ?_⟩
  · have := K g1 q1'.1
    rw [if_pos c] at this
    cases q : nall x nt with
    | false => rw [q] at this; exact zbr_t rfl this
    | true => rw [q] at this; exact zbr_f (by decide) this
  · rw [if_neg c] at K
    obtain ⟨N, hN⟩ : ∃ N, N = 10 * x.2.2.1.length := ⟨_, rfl⟩
    rw [← hN] at K
    have : ∀ j, j ≤ N → ∀ g1, qf D g g1 → (¬ nI v = 0 → sfl x nt j = []) → hwi (d + 7) zm_X7_forced k X 27 [(0, .ref 1000), (1, .int (nI v)), (2, .int (if nI v = 0 then nI (sfl x nt j).length else 0)), (3, .int (nI j))] g1 e := by
      have hd : ∀ (a : List Nat) (j m : Nat), j ≤ m → a = sfl x nt j → ∀ y, a.head? = some y → (sfl x nt m).head? = some y := by
        intro a j m hjm ha y hy
        have : ∀ l, (sfl x nt (j + l)).head? = some y := by
          intro l
          induction l with
          | zero => rw [Nat.add_zero, ← ha]; exact hy
          | succ l ih =>
            show (if sfo x nt (j + l) = true then sfl x nt (j + l) ++ [j + l] else sfl x nt (j + l)).head? = some y
            split
            · rw [List.head?_append, ih]; rfl
            · exact ih
        have := this (m - j)
        rw [show j + (m - j) = m by omega] at this
        exact this
      refine hdown ?_ ?_
      · intro g1 q1 A
        have hc1 := cdr_qf q1 hc
        refine zh_X7_forced_27 ?_
        rw [hc1.1.2]
        refine ⟨hD', zh_X2_strainCount hD' (zbr_t (by rw [hc1.2.2.2.1.1, show (10 : Int32) = nI 10 from rfl, pk_mul, ← hN]; exact nI_le (Nat.le_refl _) (by omega)) ⟨fun c0 => ?_, fun c0 => ?_⟩)⟩
        · have := K g1 q1
          rw [if_pos c0] at this ⊢
          exact this
        · have := K g1 q1
          rw [if_neg c0, A c0] at this
          exact this
      · intro j hj W g1 q1 A
        have hc1 := cdr_qf q1 hc
        refine zh_X7_forced_27 ?_
        rw [hc1.1.2]
        refine ⟨hD', zh_X2_strainCount hD' (zbr_f (by rw [hc1.2.2.2.1.1, show (10 : Int32) = nI 10 from rfl, pk_mul, ← hN]; exact nI_ge hj (by omega)) (c_isForced hc1 hr (cnt_qf hD' q1 hn) hw (by omega) (fun g2 q2' => ?_)))⟩
        have q2 := q2'.1
        have un : sfl x nt (j + 1) = if sfo x nt j = true then sfl x nt j ++ [j] else sfl x nt j := rfl
        rw [nI_1]
        have lj := sfl_le (x := x) (nt := nt) j
        cases s : sfo x nt j with
        | false =>
          rw [s, if_neg Bool.false_ne_true] at un
          refine zbr_t rfl ?_
          have := W g2 (q1.trans q2) (by rw [un]; exact A)
          rw [un] at this
          exact this
        | true =>
          rw [s, if_pos rfl] at un
          refine zbr_f (by decide) ⟨fun c1 => ?_, fun c1 => ?_⟩
          · have c0 : ¬ nI v = 0 := by rw [c1]; decide
            have := K g2 (q1.trans q2)
            rw [if_neg c0, hd (sfl x nt (j + 1)) (j + 1) N (by omega) rfl j (by rw [un, A c0]; rfl)] at this
            exact this
          · have c0 : nI v = 0 := by
              have n2 : ¬ v = 2 := fun z => c (by rw [z]; rfl)
              have n1 : ¬ v = 1 := fun z => c1 (by rw [z]; rfl)
              rw [show v = 0 by omega]
              rfl
            have := W g2 (q1.trans q2) (fun z => absurd c0 z)
            rw [if_pos c0, un, List.length_append, show [j].length = 1 from rfl, ← nI_1] at this
            rw [if_pos c0]
            exact this
    have := this 0 (Nat.zero_le _) g qf.refl (fun _ => rfl)
    rw [show (if nI v = 0 then nI (sfl x nt 0).length else (0 : Int32)) = 0 by split <;> rfl] at this
    exact this
end
