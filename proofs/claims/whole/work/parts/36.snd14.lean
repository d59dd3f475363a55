def zisl (own : String) (k n : Nat) : Bool := zML.any (fun q => Nat.beq q.2.1 k && (decide (q.1 = own) && Nat.beq q.2.1 k && Nat.beq q.2.2 n))
def zisq (own : String) (k n : Nat) : Bool := zMN.any (fun q => Nat.beq q.2.1 k && (decide (q.1 = own) && Nat.beq q.2.1 k && Nat.beq q.2.2 n))
def zisk (own : String) (k n : Nat) : Bool := zKL.any (fun q => Nat.beq q.2.1 k && (decide (q.1 = own) && Nat.beq q.2.1 k && Nat.beq q.2.2 n))
theorem zany3 {L : List (String × Nat × Nat)} {own : String} {k n : Nat} (h : L.any (fun q => Nat.beq q.2.1 k && (decide (q.1 = own) && Nat.beq q.2.1 k && Nat.beq q.2.2 n)) = true) : (own, k, n) ∈ L := by
  obtain ⟨q, hq, e⟩ := List.any_eq_true.mp h
  simp only [Bool.and_eq_true, decide_eq_true_eq] at e
  have e := e.2
  obtain ⟨⟨e1, e2⟩, e3⟩ := e
  obtain ⟨a, b, c⟩ := q
  obtain rfl : a = own := e1
  obtain rfl : b = k := Nat.eq_of_beq_eq_true e2
  obtain rfl : c = n := Nat.eq_of_beq_eq_true e3
  exact hq
theorem zlm_dr {G : zG} (hv : G.vS.category = 1) {ls : Array Slot} {n i : Nat} {v : Value} {lv : List (Nat × Value)} (h : lv_has ls n ((i, v) :: (zlm G lv).filter (fun q => !(q.1 == i) && !(q.1 + 1 == i && q.2.category == 2)))) : lv_has ls n (zlm G (zrm lv i)) := by
  refine ⟨h.1, h.2.1, fun q hq => h.2.2 q ?_⟩
  obtain ⟨x, hx, rfl⟩ := List.mem_map.mp hq
  obtain ⟨a1, a2, a3⟩ := zrm_mem hx
  refine List.mem_cons_of_mem _ (List.mem_filter.mpr ⟨List.mem_map.mpr ⟨x, a1, rfl⟩, ?_⟩)
  simp only [Bool.and_eq_true, Bool.not_eq_true', beq_eq_false_iff_ne, ne_eq, Bool.and_eq_false_iff]
  refine ⟨a2, ?_⟩
  by_cases z : x.1 + 1 = i
  · exact Or.inr (fun z2 => a3 ⟨z, zc2_cat2 hv z2⟩)
  · exact Or.inl z
/-- the method's own catches, as its table has them -/
def zhk (own : String) (nL : Nat) (cc : ByteArray) : List (Nat × Nat × Nat × Nat) → List (Nat × Nat × Nat × Nat × Nat) → Bool
  | [], [] => true
  | (a, b, t0, ct) :: r, (a', b', e, t, i) :: r' => decide (a = a' ∧ b = b' ∧ e < 2 ∧ ¬ ct = 0 ∧ i < nL) && zisk own ct e && (match decode cc t0 with
    | .ok (.astore k, n) => decide (k = i ∧ n = 2 ∧ t = t0 + 2)
    | .ok (.astore_n k, n) => decide ((k : Nat) = i ∧ n = 1 ∧ t = t0 + 1)
    | _ => false) && zhk own nL cc r r'
  | _, _ => false
theorem zNEc {x : Nat} (hx : x < 2) : Cond.castable (zNE x) (zNE x) ∈ zNW := match x, hx with
  | 0, _ => by decide +kernel
  | 1, _ => by decide +kernel
  | n + 2, h => absurd h (by omega)
theorem zNEn {G : zG} {l : Launch} {s : State} (hG : zGl G l s) {x e : Nat} (hx : x < 2) (he : e < 2) (hn : ¬ x = e) : va_Nc (zNE x) (zNE e) s := by
  have h15 := hG.2.2.2.2.2.2.2.2.2.2.2.2.2.2.1
  match x, e, hx, he, hn with
  | 0, 0, _, _, h => exact absurd rfl h
  | 0, 1, _, _, _ => exact h15.1
  | 1, 0, _, _, _ => exact h15.2
  | 1, 1, _, _, h => exact absurd rfl h
  | 0, n + 2, _, h, _ => exact absurd h (by omega)
  | 1, n + 2, _, h, _ => exact absurd h (by omega)
  | n + 2, _, h, _, _ => exact absurd h (by omega)
theorem zxh {G : zG} {l : Launch} {d : Nat} {y : zY} {Q : zR → zH → Prop} {h0 : zH} {M : zM} {pc : Nat} {lv : List (Nat × Value)} {x : Nat} {h : zH} {p : Program} {e : Env} {R : Room} {s : State} {m : MethodId} {args : Array Value} {below : List Frame} {meth : Method} {c : Code} {H : Heap} {locs : List Loc} {ls : Array Slot} {rest : List Value} {ce : Cell} {q : Addr}
    (CX : zCX G l d y h0 p R s m args meth c) (hl : lv_has ls y.nL (zlm G lv)) (hR : zRel G h H) (hL : ∀ z ∈ locs, G.sz ≤ z.base) (hsz : s.heap.size ≤ H.size) (h1 : h0.2.1 ≤ h.2.1) (h2 : h0.2.2.1 ≤ h.2.2.1) (hx2 : x < 2) (hcell : H[q]? = some ce) (hv : ce.vm = .none) (hcl : s.vm.findClass (zNE x) = some ce.cls) :
    ∀ (hs : List (Nat × Nat × Nat × Nat × Nat)) (pre tl : List ExceptionTableEntry), c.exceptionTable.toList = pre ++ tl → (∀ z ∈ pre, covers z pc = false ∨ (z.catchType ≠ 0 ∧ ∃ nm : String, (Cond.classLink y.nm.cls z.catchType nm).before args s = true ∧ va_Nc (zNE x) nm s)) →
      zhk y.nm.cls y.nL y.cc (tl.map (fun h => (h.startPc, h.endPc, h.handlerPc, h.catchType))) hs = true → zX Q (fun f => zP G l d y Q h0 (f.1, zkp (M.2.2.1 f.1) f.2.1, f.2.2.1, f.2.2.2)) pc lv x h hs →
      vx_W p l e R s m args below meth c H locs (h.2.1 - h0.2.1) (h.2.2.1 - h0.2.2.1) (zMQ G Q h0 below s) (F0 m pc ls rest) q := by
  obtain ⟨hx, hb, hr, hlk, hml, hown, hts, hnm, hG, hR0, hRm, hex⟩ := id CX
  have hvc : G.vS.category = 1 := hG.2.2.2.2.2.1
  intro hs
  induction hs with
  | nil =>
    intro pre tl hsp hpass hk hX T hT X
    cases tl with
    | cons z tl => cases hk
    | nil =>
      rw [List.append_nil] at hsp
      have hX : Q (.inr x) h := hX
      obtain ⟨t, a, b⟩ := vx_outP (p := p) (l := l) (e := e) (R := R) (below := below) (cells := h.2.1 - h0.2.1) (slots := h.2.2.1 - h0.2.2.1) (free := fun q => G.sz ≤ q) (ls := ls) (rest := rest) (Qc := fun _ _ _ _ => False) (XC := fun E st t => E = zNE x ∧ zRel G h t.heap ∧ st.heap.size ≤ t.heap.size) (pc := pc) (mc := h.2.1 - h0.2.1) (ms := h.2.2.1 - h0.2.2.1) (args := args) hown hlk
        (by rw [hsp]; exact hpass) hcell hv hcl (fun t ht _ => ⟨rfl, by rw [ht]; exact hR, by rw [ht]; exact hsz⟩) hL (Nat.le_refl _) (Nat.le_refl _) T hT X
      exact ⟨t, a, zMQ_th hX hx2 h1 h2 t b⟩
  | cons w hs ih =>
    obtain ⟨a', b', ex, t, i⟩ := w
    intro pre tl hsp hpass hk hX
    cases tl with
    | nil => cases hk
    | cons z tl =>
      unfold zhk at hk
      simp only [List.map_cons, Bool.and_eq_true] at hk
      obtain ⟨⟨⟨k1, k2⟩, k3⟩, k4⟩ := hk
      obtain ⟨j1, j2, j3, j4, j5⟩ := of_decide_eq_true k1
      have hlink := hts _ (zKL_ok _ (zany3 k2))
      obtain ⟨X1, X2⟩ := hX
      by_cases hc : x = ex ∧ a' ≤ pc ∧ pc < b'
      · have X3 := X1 hc
        obtain ⟨rfl, c1, c2⟩ := hc
        refine vx_catch hown pre z tl hsp hpass (by unfold covers; rw [j1, j2]; simp [c1, c2]) j4 hlink (va_Nw.use rfl (hG.2.2.2.2.2.2.2.2.2.2.2.2.2.2.2.2.2 _ (zNEc hx2))) hcell hv hcl ?_
        split at k3
        · rename_i k n e1
          obtain ⟨q1, q2, q3⟩ := of_decide_eq_true k3
          subst q1
          subst q2
          subst q3
          exact lv_astore hx hb e1 hl j5 rfl (fun ls9 hl9 => X3 p e R s m args below meth c H locs ls9 CX (zlm_kp _ (zlm_dr hvc hl9)) hR hL hsz h1 h2)
        · rename_i k n e1
          obtain ⟨q1, q2, q3⟩ := of_decide_eq_true k3
          subst q2
          subst q3
          exact lv_astore_n hx hb e1 q1 hl j5 rfl (fun ls9 hl9 => X3 p e R s m args below meth c H locs ls9 CX (zlm_kp _ (zlm_dr hvc hl9)) hR hL hsz h1 h2)
        · cases k3
      · refine ih (pre ++ [z]) tl (by rw [hsp]; simp) (fun z' hz' => ?_) k4 (X2 hc)
        rcases List.mem_append.mp hz' with hz' | hz'
        · exact hpass z' hz'
        · obtain rfl := List.mem_singleton.mp hz'
          by_cases hxe : x = ex
          · refine Or.inl ?_
            unfold covers
            rw [j1, j2]
            by_cases g1 : a' ≤ pc
            · have g2 : ¬ pc < b' := fun g2 => hc ⟨hxe, g1, g2⟩
              simp [g2]
            · simp [g1]
          · exact Or.inr ⟨j4, _, hlink, zNEn hG hx2 j3 hxe⟩
def zb_call (own : String) (nL : Nat) (hh : List (Nat × Nat × Nat × Nat)) (hs : List (Nat × Nat × Nat × Nat × Nat)) (cc : ByteArray) (pc len r1 r2 r3 : Nat) (ts : List Nat) : Bool := Nat.beq len 3 && Nat.ble r3 3 && zhk own nL cc hh hs && (match zYI r1 with
  | none => false
  | some q => (match decode cc pc with
    | .ok (.invokevirtual i, n) => Nat.beq n 3 && Nat.beq q.2.1 0 && Nat.beq r2 (q.2.2.1 + 1) && zisl own i r1
    | .ok (.invokestatic i, n) => Nat.beq n 3 && Nat.beq q.2.1 1 && Nat.beq r2 q.2.2.1 && zisl own i r1
    | .ok (.invokespecial i, n) => Nat.beq n 3 && Nat.beq q.2.1 2 && Nat.beq r2 (q.2.2.1 + 1) && (zisl own i r1 || zisq own i r1)
    | _ => false))
theorem zcn_cl : ∀ k, k < 9 → ∃ r : vw_C, vwCl[k]? = some r ∧ r.1 = zcn k := fun k h => match k, h with
  | 0, _ => ⟨_, rfl, rfl⟩
  | 1, _ => ⟨_, rfl, rfl⟩
  | 2, _ => ⟨_, rfl, rfl⟩
  | 3, _ => ⟨_, rfl, rfl⟩
  | 4, _ => ⟨_, rfl, rfl⟩
  | 5, _ => ⟨_, rfl, rfl⟩
  | 6, _ => ⟨_, rfl, rfl⟩
  | 7, _ => ⟨_, rfl, rfl⟩
  | 8, _ => ⟨_, rfl, rfl⟩
  | n + 9, h => absurd h (by omega)
theorem vwCl_lt {k : Nat} {r : vw_C} (h : vwCl[k]? = some r) : k < 9 := (List.getElem?_eq_some_iff.mp h).1
/-- the object of a call is there, and of its class -/
theorem zobj {G : zG} {l : Launch} {s : State} {h : zH} {H : Heap} (hG : zGl G l s) (hR : zRel G h H) {k a : Nat} {fs : List Value} (hk : k ≤ 9) (hz : zcl h a = some (.inr (k, fs))) : ∃ cell : Cell, H[zad G a]? = some cell ∧ cell.vm.isStatics = false ∧ s.vm.findClass (zcn k) = some cell.cls := by
  by_cases ha : 1000 ≤ a
  · have := hR.at ha hz
    obtain ⟨r, hr, cell, g1, g2, g3, -⟩ := this
    obtain ⟨r', hr', e⟩ := zcn_cl k (vwCl_lt hr)
    cases Option.some.inj (hr.symm.trans hr')
    exact ⟨cell, g1, by rw [g3]; rfl, by rw [g2, ← e]; exact (hG.2.2.1.1 k r hr).2.1⟩
  · have hlo := hR.lo (by omega) hz
    unfold zsc at hlo
    split at hlo
    · cases hlo
    · rename_i n1
      split at hlo
      · rename_i n2
        split at hlo
        · rename_i n3
          cases hlo
          have hO := (hG.2.2.2.2.2.2.2.2.1 (a / 2) (by omega)).1
          rw [show 2 * (a / 2) = a by omega] at hO
          obtain ⟨cell, g1, g2, g3, g4⟩ := hO
          have hlt : ¬ G.sz ≤ G.ra a := g4
          have e : zad G a = G.ra a := by unfold zad; rw [if_pos (by omega)]
          exact ⟨cell, by rw [e, hR.below (by omega)]; exact g1, g2, g3⟩
        · cases hlo
      · cases hlo
theorem zrc_at {k : Nat} {as : List Value} {h : zH} (hz : zrc k as h) : ∃ a tl fs, as = .ref a :: tl ∧ zcl h a = some (.inr (k, fs)) := by
  unfold zrc at hz
  split at hz
  · obtain ⟨fs, e⟩ := hz
    exact ⟨_, _, fs, rfl, e⟩
  · exact hz.elim
/-- the call itself, by its kind -/
theorem zinv {G : zG} {l : Launch} {d : Nat} {y : zY} {h0 h : zH} {p : Program} {e : Env} {R : Room} {s : State} {m : MethodId} {args : Array Value} {below : List Frame} {meth : Method} {c : Code} {T : State} {locs : List Loc} {cells slots : Nat} {ls : Array Slot} {pc r1 r2 : Nat} {as st : List Value} {q : zV}
    (CX : zCX G l d y h0 p R s m args meth c) (X : Stand p l e R s m args below meth c T locs cells slots) (hR : zRel G h T.heap) (hok : zok r1 as h) (hq : zYI r1 = some q) (has : as.length = r2)
    (ok : (match decode y.cc pc with
    | .ok (.invokevirtual i, n) => Nat.beq n 3 && Nat.beq q.2.1 0 && Nat.beq r2 (q.2.2.1 + 1) && zisl y.nm.cls i r1
    | .ok (.invokestatic i, n) => Nat.beq n 3 && Nat.beq q.2.1 1 && Nat.beq r2 q.2.2.1 && zisl y.nm.cls i r1
    | .ok (.invokespecial i, n) => Nat.beq n 3 && Nat.beq q.2.1 2 && Nat.beq r2 (q.2.2.1 + 1) && (zisl y.nm.cls i r1 || zisq y.nm.cls i r1)
    | _ => false) = true) :
    (∃ ig, decode c.code pc = .ok (ig, 3)) ∧ zInv p l e R s m args below meth c T locs cells slots q.1.nm (F0 m pc ls ((as.reverse ++ st).map (zmv G))) (as.map (zmv G)).toArray (st.map (zmv G)) := by
  obtain ⟨hx, hb, hr, hlk, hml, hown, hts, hnm, hG, hR0, hRm, hex⟩ := id CX
  obtain ⟨w1, w2, ⟨-, w3⟩, -, w4, w5, w6⟩ := zYI_ok r1 q hq
  have link : ∀ i, zisl y.nm.cls i r1 = true → (Cond.methodLink y.nm.cls i q.1.nm).before args s = true := by
    intro i hi
    obtain ⟨r, hr, hw⟩ := zML_ok _ (zany3 hi)
    cases Option.some.inj (hq.symm.trans hr)
    exact hts _ hw
  split at ok
  · rename_i i n e1
    simp only [Bool.and_eq_true] at ok
    obtain ⟨⟨⟨k1, k2⟩, k3⟩, k4⟩ := ok
    obtain rfl := Nat.eq_of_beq_eq_true k1
    have k2 := Nat.eq_of_beq_eq_true k2
    have k3 := Nat.eq_of_beq_eq_true k3
    rw [k2] at w6
    obtain ⟨v1, v2, v3, v4⟩ := w6
    have hok2 := hok.2
    rw [w5] at hok2
    have : Nat.beq q.2.2.2 99 = false := by
      cases hb : Nat.beq q.2.2.2 99 with
      | false => rfl
      | true => have := Nat.eq_of_beq_eq_true hb; omega
    simp only [this] at hok2
    obtain ⟨a, tl, fs, rfl, hz⟩ := zrc_at hok2
    obtain ⟨cell, g1, g2, g3⟩ := zobj hG hR v4 hz
    refine ⟨⟨_, by rw [hb]; exact e1⟩, ?_⟩
    exact zInvV X hx (C := q.1.nm.cls) (index := i) hown (link i k4) (hts _ v1) (hts _ v2) (hts _ w1) w3 (b := zad G a) g1 g2 (by rw [v3]; exact g3) rfl (argsL := tl.map (zmv G)) (by rw [w4, List.length_map]; simp at has; congr 1; omega) (by show ((Value.ref a :: tl).reverse ++ st).map (zmv G) = _; simp; rfl) (by rw [hb]; exact e1)
  · rename_i i n e1
    simp only [Bool.and_eq_true] at ok
    obtain ⟨⟨⟨k1, k2⟩, k3⟩, k4⟩ := ok
    obtain rfl := Nat.eq_of_beq_eq_true k1
    have k2 := Nat.eq_of_beq_eq_true k2
    have k3 := Nat.eq_of_beq_eq_true k3
    rw [k2] at w6
    refine ⟨⟨_, by rw [hb]; exact e1⟩, ?_⟩
    exact zInvS X hx (index := i) hown (link i k4) (hts _ w6) (hts _ w2) (hts _ w1) w3 rfl (argsL := as.map (zmv G)) (by rw [w4, List.length_map]; congr 1; omega) (by show (as.reverse ++ st).map (zmv G) = _; simp) (by rw [hb]; exact e1)
  · rename_i i n e1
    simp only [Bool.and_eq_true, Bool.or_eq_true] at ok
    obtain ⟨⟨⟨k1, k2⟩, k3⟩, k4⟩ := ok
    obtain rfl := Nat.eq_of_beq_eq_true k1
    have k2 := Nat.eq_of_beq_eq_true k2
    have k3 := Nat.eq_of_beq_eq_true k3
    rw [k2] at w6
    obtain ⟨v1, v2, v3, v4, v5⟩ := w6
    have hok2 := hok.2
    rw [w5] at hok2
    have : Nat.beq q.2.2.2 99 = false := by
      cases hb : Nat.beq q.2.2.2 99 with
      | false => rfl
      | true => have := Nat.eq_of_beq_eq_true hb; omega
    simp only [this] at hok2
    obtain ⟨a, tl, fs, rfl, hz⟩ := zrc_at hok2
    refine ⟨⟨_, by rw [hb]; exact e1⟩, ?_⟩
    have hc := hts _ w1
    obtain ⟨⟨n1, c1, l1, t1, hh1⟩, kk⟩ := q
    obtain rfl : hh1 = [] := v4
    obtain rfl : t1 = none := v3
    refine zInvI X hx (index := i) hown v2 ?_ (hts _ v1) (bytes := c1) (maxL := l1) hc w3 rfl (a := zad G a) (argsL := tl.map (zmv G)) (by rw [w4, List.length_map]; simp at has; congr 1; omega) (by show ((Value.ref a :: tl).reverse ++ st).map (zmv G) = _; simp; rfl) (by rw [hb]; exact e1)
    rcases k4 with k4 | k4
    · exact Or.inl (link i k4)
    · obtain ⟨r, hr, host, hw⟩ := zMN_ok _ (zany3 k4)
      cases Option.some.inj (hq.symm.trans hr)
      exact Or.inr ⟨host, va_Nw.use (zNW_on _ hw) (hG.2.2.2.2.2.2.2.2.2.2.2.2.2.2.2.2.2 _ hw)⟩
  · cases ok
theorem zroo {a b N r : Nat} (h1 : b ≤ a) (h2 : a ≤ N) (h3 : N - b ≤ r) : a - b + (N - a) ≤ r := by omega
theorem zroof {d r : Nat} (h : zfr (d + 1) ≤ r) : zfr d + 1 ≤ r := by unfold zfr at h ⊢; omega
theorem zlo_s (d : Nat) : zlo (d + 1) = zlo d + 60 := by
  show 60 * (d + 1) + 300 = 60 * d + 300 + 60
  rw [Nat.mul_add]
theorem zrool1 {z n w r : Nat} (h1 : z ≤ 20) (h2 : n ≤ 24) (h3 : w + 60 ≤ r) : z + (n + 11) + w ≤ r := by omega
theorem zrool {z n d r : Nat} (h1 : z ≤ 20) (h2 : n ≤ 24) (h3 : zlo (d + 1) ≤ r) : 2 * 0 + z + (n + 11) + zlo d ≤ r := by
  rw [zlo_s] at h3
  rw [Nat.mul_zero, Nat.zero_add]
  exact zrool1 h1 h2 h3
theorem zroot {a b c : Nat} (h1 : a ≤ b) (h2 : b ≤ c) : b - a + (c - b) = c - a := by omega
theorem zx_call {G : zG} {l : Launch} {d : Nat} {y : zY} {E : Nat → List Value → zH → (zR → zH → Prop) → Prop} {M : zM} {Q : zR → zH → Prop} {h0 : zH} {pc len r1 r2 r3 : Nat} {ts : List Nat} {lv : List (Nat × Value)} {st : List Value} {h : zH} (hE : ∀ n q as h Q, zYI n = some q → E n as h Q → zok n as h ∧ zMet G l d q.1 as h Q) (ok : zb_call y.nm.cls y.nL y.hh M.2.2.2 y.cc pc len r1 r2 r3 ts = true) (K : zo_call E M Q (zP G l d y Q h0) pc len r1 r2 r3 ts lv st h) : zP G l d y Q h0 (pc, lv, st, h) := by
  intro p e R s m args below meth c H locs ls CX hl hR hL hsz h1 h2
  obtain ⟨hx, hb, hr, hlk, hml, hown, hts, hnm, hG, hR0, hRm, hex⟩ := id CX
  have hvc : G.vS.category = 1 := hG.2.2.2.2.2.1
  unfold zb_call at ok
  simp only [Bool.and_eq_true] at ok
  obtain ⟨⟨⟨o1, o2⟩, o3⟩, o4⟩ := ok
  obtain rfl := Nat.eq_of_beq_eq_true o1
  split at o4
  · cases o4
  rename_i q hq
  unfold zo_call at K
  split at K
  · rename_i as st' ep
    obtain ⟨hz, K⟩ := K
    have hz := Nat.le_of_ble_eq_true hz
    obtain ⟨lq, l1, l2, l3⟩ := zpop_eq ep
    rw [List.append_nil] at l3
    obtain ⟨hok, hM⟩ := hE r1 q as h _ hq K
    have e3 : st = as.reverse ++ st' := by rw [l3, List.reverse_reverse]; exact l2
    subst e3
    intro T hT X
    have X : Stand p l e R s m args below meth c T locs (h.2.1 - h0.2.1) (h.2.2.1 - h0.2.2.1) := X
    obtain ⟨w1, w2, -, w3, -⟩ := zYI_ok r1 q hq
    have hR' : zRel G h T.heap := by rw [hT]; exact hR
    obtain ⟨⟨ig, hdg⟩, hI⟩ := zinv (ls := ls) (st := st') CX X hR' hok hq (by rw [l3, List.length_reverse]; exact l1) o4
    obtain ⟨f1, f2, f3, f4⟩ := hRm
    have c1 : h.2.1 ≤ zNL := hR.1
    have c2 : h.2.2.1 ≤ zSL := hR.2.1
    have h1 : h0.2.1 ≤ h.2.1 := h1
    have h2 : h0.2.2.1 ≤ h.2.2.1 := h2
    have r3' : h.2.1 - h0.2.1 + (zNL - h.2.1) ≤ R.cells := zroo h1 c1 f3
    have r4' : h.2.2.1 - h0.2.2.1 + (zSL - h.2.2.1) ≤ R.slots := zroo h2 c2 f4
    rcases zpay (cells := h.2.1 - h0.2.1) (slots := h.2.2.1 - h0.2.2.1) (h := h) (g := F0 m pc ls ((as.reverse ++ st').map (zmv G))) (rest := st'.map (zmv G)) X hM hI hts w1 w2 hG hR' (zroof f1)
      (by rw [zsz_cat hvc]; exact zrool hz w3 f2) r3' r4' rfl (hl.1.trans hml.symm) hdg with
      ⟨v, h', L, T', hQ, z1, z2, z3, z4, z5, X', st9⟩ | ⟨qa, x, h', ce, L, T', hQ, hx2, z1, z2, z3, z4, z5, z6, z7, z8, X', st9⟩
    · have ec : h.2.1 - h0.2.1 + (h'.2.1 - h.2.1) = h'.2.1 - h0.2.1 := zroot h1 z3
      have es : h.2.2.1 - h0.2.2.1 + (h'.2.2.1 - h.2.2.1) = h'.2.2.1 - h0.2.2.1 := zroot h2 z4
      have X' : Stand p l e R s m args below meth c T' (locs ++ L) (h'.2.1 - h0.2.1) (h'.2.2.1 - h0.2.2.1) := by
        rw [← ec, ← es]
        exact X'
      have fin : ∀ vs, vs.map (zmv G) = (v.map (zmv G)).toList → zP G l d y Q h0 (pc + 3, zkp (M.2.2.1 (pc + 3)) lv, vs ++ st', h') → ∃ t, Steps p.tables e below (T.setTop (F0 m pc ls ((as.reverse ++ st').map (zmv G)))) t ∧ zMQ G Q h0 below s t := by
        intro vs hvs hP
        obtain ⟨t, a, b⟩ := hP p e R s m args below meth c T'.heap (locs ++ L) ls CX (zlm_kp _ hl) z1 (fun z hz => (List.mem_append.mp hz).elim (hL z) (z5 z)) (by rw [← hT] at hsz; exact Nat.le_trans hsz z2) (Nat.le_trans h1 z3) (Nat.le_trans h2 z4) T' rfl X'
        refine ⟨t, st9 t ?_, b⟩
        have a : Steps p.tables e below (T'.setTop (F0 m (pc + 3) ls ((vs ++ st').map (zmv G)))) t := a
        rw [List.map_append, hvs] at a
        exact a
      have hQ : zrt r3 v (fun vs => zP G l d y Q h0 (pc + 3, zkp (M.2.2.1 (pc + 3)) lv, vs ++ st', h')) := hQ
      unfold zrt at hQ
      split at hQ
      · obtain ⟨rfl, hP⟩ := hQ
        exact fin [] rfl hP
      · obtain ⟨x, rfl, hP⟩ := hQ
        exact fin [.int x] rfl hP
      · obtain ⟨x, rfl, hP⟩ := hQ
        exact fin [.long x] rfl hP
      · obtain ⟨x, rfl, hP⟩ := hQ
        exact fin [.ref x] rfl hP
    · have ec : h.2.1 - h0.2.1 + (h'.2.1 - h.2.1) = h'.2.1 - h0.2.1 := zroot h1 z3
      have es : h.2.2.1 - h0.2.2.1 + (h'.2.2.1 - h.2.2.1) = h'.2.2.1 - h0.2.2.1 := zroot h2 z4
      have X' : Stand p l e R s m args below meth c T' (locs ++ L) (h'.2.1 - h0.2.1) (h'.2.2.1 - h0.2.2.1) := by
        rw [← ec, ← es]
        exact X'
      obtain ⟨t, a, b⟩ := zxh (M := M) (rest := st'.map (zmv G)) (H := T'.heap) (locs := locs ++ L) CX hl z1 (fun z hz => (List.mem_append.mp hz).elim (hL z) (z5 z)) (by rw [← hT] at hsz; exact Nat.le_trans hsz z2) (Nat.le_trans h1 z3) (Nat.le_trans h2 z4) hx2 z6 z7 z8 M.2.2.2 [] c.exceptionTable.toList rfl (fun z hz => absurd hz List.not_mem_nil) (by rw [hex]; exact o3) hQ T' rfl X'
      exact ⟨t, st9.trans a, b⟩
  · exact K.elim
