/-- returns -/
def zkind (k : Nat) (rt : Option FieldType) : Bool := match k, rt with
  | 0, none => true
  | 1, some .int => true
  | 2, some .long => true
  | 3, some (.object _) => true
  | 3, some (.array _) => true
  | 4, some .boolean => true
  | 5, some .char => true
  | 6, some .byte => true
  | _, _ => false
def zb_iret (cc : ByteArray) (pc len r1 r2 r3 : Nat) (ts : List Nat) : Bool := match decode cc pc with
  | .ok (.ireturn, n) => decide (n = 1 ∧ len = 1)
  | _ => false
def zb_lret (cc : ByteArray) (pc len r1 r2 r3 : Nat) (ts : List Nat) : Bool := match decode cc pc with
  | .ok (.lreturn, n) => decide (n = 1 ∧ len = 1)
  | _ => false
def zb_aret (cc : ByteArray) (pc len r1 r2 r3 : Nat) (ts : List Nat) : Bool := match decode cc pc with
  | .ok (.areturn, n) => decide (n = 1 ∧ len = 1)
  | _ => false
def zb_vret (cc : ByteArray) (pc len r1 r2 r3 : Nat) (ts : List Nat) : Bool := match decode cc pc with
  | .ok (.return_, n) => decide (n = 1 ∧ len = 1)
  | _ => false
/-- what a body that returns owes, out of the kit's end -/
theorem zMQ_of {G : zG} {Q : zR → zH → Prop} {h0 h : zH} {below : List Frame} {s : State} {args : Array Value} {v : Option Value} {H : Heap} (hQ : Q (.inl v) h) (h1 : h0.2.1 ≤ h.2.1) (h2 : h0.2.2.1 ≤ h.2.2.1) : ∀ t, MQ below (fun _ st o t => o = .returned (v.map (zmv G)) ∧ zRel G h t.heap ∧ st.heap.size ≤ t.heap.size) args s (h.2.1 - h0.2.1) (h.2.2.1 - h0.2.2.1) (fun q => G.sz ≤ q) t → zMQ G Q h0 below s t := by
  rintro t ⟨o, a1, a2, ⟨a3, a4, a5⟩, L, a6, a7⟩
  exact ⟨o, a1, a2, Or.inl ⟨v, h, L, a3, hQ, a4, a5, h1, h2, a6, a7⟩⟩
theorem zfit_ok {k : Nat} {x : Int32} {rt : Option FieldType} (hk : zkind k rt = true) (hf : zfit k x) : ∃ ty, rt = some ty ∧ narrow ty (.int x) = .int x := by
  unfold zfit at hf
  split at hf
  · match rt, hk with
    | some .int, _ => exact ⟨_, rfl, rfl⟩
  · match rt, hk with
    | some .boolean, _ =>
      refine ⟨_, rfl, ?_⟩
      rcases hf with rfl | rfl
      · rfl
      · rfl
  · match rt, hk with
    | some .char, _ =>
      obtain ⟨n, hn, rfl⟩ := hf
      exact ⟨_, rfl, (pk_charN (by omega)).1⟩
  · match rt, hk with
    | some .byte, _ =>
      subst hf
      exact ⟨_, rfl, rfl⟩
  · exact hf.elim
/-- switches -/
theorem zsw_el {x : Int32} {P : Nat → Prop} {dd : Nat} : ∀ (ts : List Nat) (lo : Nat), zsw x P dd lo ts → (∃ i t, ts[i]? = some t ∧ x = nI (lo + i) ∧ P t) ∨ ((∀ i, i < ts.length → ¬ x = nI (lo + i)) ∧ P dd)
  | [], lo, h => Or.inr ⟨fun i hi => absurd hi (Nat.not_lt_zero i), h⟩
  | t :: ts, lo, h => by
    by_cases e : x = nI lo
    · exact Or.inl ⟨0, t, rfl, e, h.1 e⟩
    · rcases zsw_el ts (lo + 1) (h.2 e) with ⟨i, t', h1, h2, h3⟩ | ⟨h1, h2⟩
      · exact Or.inl ⟨i + 1, t', h1, by rw [h2]; congr 1; omega, h3⟩
      · refine Or.inr ⟨fun i hi => ?_, h2⟩
        cases i with
        | zero => exact e
        | succ i =>
          have := h1 i (by simpa using hi)
          rw [show lo + (i + 1) = lo + 1 + i by omega]
          exact this
theorem zswn_el {x : Int32} {P : Nat → Prop} {dd : Nat} : ∀ (ts : List Nat) (lo : Nat), ts.length ≤ lo → zswn x P dd lo ts → (∃ i t, ts[i]? = some t ∧ x = -nI (lo - i) ∧ P t) ∨ ((∀ i, i < ts.length → ¬ x = -nI (lo - i)) ∧ P dd)
  | [], lo, _, h => Or.inr ⟨fun i hi => absurd hi (Nat.not_lt_zero i), h⟩
  | t :: ts, lo, hl, h => by
    by_cases e : x = -nI lo
    · exact Or.inl ⟨0, t, rfl, e, h.1 e⟩
    · rcases zswn_el ts (lo - 1) (by simp at hl; omega) (h.2 e) with ⟨i, t', h1, h2, h3⟩ | ⟨h1, h2⟩
      · exact Or.inl ⟨i + 1, t', h1, by rw [h2]; congr 2; omega, h3⟩
      · refine Or.inr ⟨fun i hi => ?_, h2⟩
        cases i with
        | zero => exact e
        | succ i =>
          have := h1 i (by simpa using hi)
          rw [show lo - (i + 1) = lo - 1 - i by omega]
          exact this
def zlow (r2 r3 : Nat) : Int := match r3 with
  | 0 => (r2 : Int)
  | _ => -(r2 : Int)
def zb_switch (cc : ByteArray) (pc len r1 r2 r3 : Nat) (ts : List Nat) : Bool := match decode cc pc with
  | .ok (.tableswitch dflt lo hi offs, n) => decide (n = len ∧ lo = zlow r2 r3 ∧ hi = lo + (ts.length : Int) - 1 ∧ offs.toList = ts.map (fun (t : Nat) => (t : Int) - (pc : Int)) ∧ (pc : Int) + dflt = (r1 : Int) ∧ r2 + ts.length < 1000 ∧ (r3 = 0 ∨ ts.length ≤ r2))
  | _ => false
theorem zint {x : Int32} {n : Nat} (hn : n < 2 ^ 31) (h : x.toInt = (n : Int)) : x = nI n := by
  apply Int32.toInt_inj.mp
  rw [h, nI_toInt hn]
theorem zintn {x : Int32} {n : Nat} (hn : n < 2 ^ 31) (h : x.toInt = -(n : Int)) : x = -nI n := by
  apply Int32.toInt_inj.mp
  rw [h, sb_negT hn]
theorem zx_iret {G : zG} {l : Launch} {d : Nat} {y : zY} {E : Nat → List Value → zH → (zR → zH → Prop) → Prop} {M : zM} {Q : zR → zH → Prop} {h0 : zH} {pc len r1 r2 r3 : Nat} {ts : List Nat} {lv : List (Nat × Value)} {st : List Value} {h : zH} (hkd : zkind M.1 y.rt = true) (ok : zb_iret y.cc pc len r1 r2 r3 ts = true) (K : zo_iret E M Q (zP G l d y Q h0) pc len r1 r2 r3 ts lv st h) : zP G l d y Q h0 (pc, lv, st, h) := by
  intro p e R s m args below meth c H locs ls CX hl hR hL hsz h1 h2
  obtain ⟨hx, hb, hr, hlk, hml, hown, hts, hnm, hG, hR0, hRm, hex⟩ := id CX
  have hvc : G.vS.category = 1 := hG.2.2.2.2.2.1
  unfold zb_iret at ok
  split at ok
  · rename_i n e1
    obtain ⟨q1, q2⟩ := of_decide_eq_true ok
    subst q1
    unfold zo_iret at K
    split at K
    · rename_i x9
      obtain ⟨ty, t1, t2⟩ := zfit_ok hkd K.1
      refine zW.mono (zMQ_of (G := G) (args := args) (H := H) (v := some (.int x9)) K.2 h1 h2) ?_
      exact W.zret hx hb (hr.trans t1) t2 (fun t ht _ => ⟨rfl, by rw [ht]; exact hR, by rw [ht]; exact hsz⟩) hL e1 hlk
    · exact K.elim
  · cases ok

theorem zx_lret {G : zG} {l : Launch} {d : Nat} {y : zY} {E : Nat → List Value → zH → (zR → zH → Prop) → Prop} {M : zM} {Q : zR → zH → Prop} {h0 : zH} {pc len r1 r2 r3 : Nat} {ts : List Nat} {lv : List (Nat × Value)} {st : List Value} {h : zH} (hkd : M.1 = 2 ∧ zkind M.1 y.rt = true) (ok : zb_lret y.cc pc len r1 r2 r3 ts = true) (K : zo_lret E M Q (zP G l d y Q h0) pc len r1 r2 r3 ts lv st h) : zP G l d y Q h0 (pc, lv, st, h) := by
  intro p e R s m args below meth c H locs ls CX hl hR hL hsz h1 h2
  obtain ⟨hx, hb, hr, hlk, hml, hown, hts, hnm, hG, hR0, hRm, hex⟩ := id CX
  have hvc : G.vS.category = 1 := hG.2.2.2.2.2.1
  unfold zb_lret at ok
  split at ok
  · rename_i n e1
    obtain ⟨q1, q2⟩ := of_decide_eq_true ok
    subst q1
    unfold zo_lret at K
    split at K
    · rename_i x9
      have t1 : y.rt = some .long := by
        obtain ⟨k1, k2⟩ := hkd
        rw [k1] at k2
        match hh : y.rt, k2 with
        | some .long, _ => rfl
      refine zW.mono (zMQ_of (G := G) (args := args) (H := H) (v := some (.long x9)) K h1 h2) ?_
      exact W.lret hx hb (hr.trans t1) (fun t ht _ => ⟨rfl, by rw [ht]; exact hR, by rw [ht]; exact hsz⟩) hL e1 hlk
    · exact K.elim
  · cases ok

theorem zx_aret {G : zG} {l : Launch} {d : Nat} {y : zY} {E : Nat → List Value → zH → (zR → zH → Prop) → Prop} {M : zM} {Q : zR → zH → Prop} {h0 : zH} {pc len r1 r2 r3 : Nat} {ts : List Nat} {lv : List (Nat × Value)} {st : List Value} {h : zH} (hkd : M.1 = 3 ∧ zkind M.1 y.rt = true) (ok : zb_aret y.cc pc len r1 r2 r3 ts = true) (K : zo_aret E M Q (zP G l d y Q h0) pc len r1 r2 r3 ts lv st h) : zP G l d y Q h0 (pc, lv, st, h) := by
  intro p e R s m args below meth c H locs ls CX hl hR hL hsz h1 h2
  obtain ⟨hx, hb, hr, hlk, hml, hown, hts, hnm, hG, hR0, hRm, hex⟩ := id CX
  have hvc : G.vS.category = 1 := hG.2.2.2.2.2.1
  unfold zb_aret at ok
  split at ok
  · rename_i n e1
    obtain ⟨q1, q2⟩ := of_decide_eq_true ok
    subst q1
    unfold zo_aret at K
    split at K
    · rename_i x9
      have t1 : ∃ rt, y.rt = some rt ∧ ((∃ n, rt = .object n) ∨ ∃ t, rt = .array t) := by
        obtain ⟨k1, k2⟩ := hkd
        rw [k1] at k2
        match hh : y.rt, k2 with
        | some (.object n), _ => exact ⟨_, rfl, Or.inl ⟨n, rfl⟩⟩
        | some (.array n), _ => exact ⟨_, rfl, Or.inr ⟨n, rfl⟩⟩
      obtain ⟨rt, t2, t3⟩ := t1
      refine zW.mono (zMQ_of (G := G) (args := args) (H := H) (v := some (.ref x9)) K h1 h2) ?_
      exact W.aret hx hb (hr.trans t2) t3 (Or.inr ⟨_, rfl⟩) (fun t ht _ => ⟨rfl, by rw [ht]; exact hR, by rw [ht]; exact hsz⟩) hL e1 hlk
    · exact K.elim
  · cases ok

theorem zx_vret {G : zG} {l : Launch} {d : Nat} {y : zY} {E : Nat → List Value → zH → (zR → zH → Prop) → Prop} {M : zM} {Q : zR → zH → Prop} {h0 : zH} {pc len r1 r2 r3 : Nat} {ts : List Nat} {lv : List (Nat × Value)} {st : List Value} {h : zH} (hkd : M.1 = 0 ∧ zkind M.1 y.rt = true) (ok : zb_vret y.cc pc len r1 r2 r3 ts = true) (K : zo_vret E M Q (zP G l d y Q h0) pc len r1 r2 r3 ts lv st h) : zP G l d y Q h0 (pc, lv, st, h) := by
  intro p e R s m args below meth c H locs ls CX hl hR hL hsz h1 h2
  obtain ⟨hx, hb, hr, hlk, hml, hown, hts, hnm, hG, hR0, hRm, hex⟩ := id CX
  have hvc : G.vS.category = 1 := hG.2.2.2.2.2.1
  unfold zb_vret at ok
  split at ok
  · rename_i n e1
    obtain ⟨q1, q2⟩ := of_decide_eq_true ok
    subst q1
    unfold zo_vret at K
    split at K
    · have t1 : y.rt = none := by
        obtain ⟨k1, k2⟩ := hkd
        rw [k1] at k2
        match hh : y.rt, k2 with
        | none, _ => rfl
      refine zW.mono (zMQ_of (G := G) (args := args) (H := H) (v := none) K h1 h2) ?_
      exact W.vret hx hb (hr.trans t1) (fun t ht _ => ⟨rfl, by rw [ht]; exact hR, by rw [ht]; exact hsz⟩) hL e1 hlk
    · exact K.elim
  · cases ok

theorem zx_switch {G : zG} {l : Launch} {d : Nat} {y : zY} {E : Nat → List Value → zH → (zR → zH → Prop) → Prop} {M : zM} {Q : zR → zH → Prop} {h0 : zH} {pc len r1 r2 r3 : Nat} {ts : List Nat} {lv : List (Nat × Value)} {st : List Value} {h : zH} (ok : zb_switch y.cc pc len r1 r2 r3 ts = true) (K : zo_switch E M Q (zP G l d y Q h0) pc len r1 r2 r3 ts lv st h) : zP G l d y Q h0 (pc, lv, st, h) := by
  intro p e R s m args below meth c H locs ls CX hl hR hL hsz h1 h2
  obtain ⟨hx, hb, hr, hlk, hml, hown, hts, hnm, hG, hR0, hRm, hex⟩ := id CX
  have hvc : G.vS.category = 1 := hG.2.2.2.2.2.1
  unfold zb_switch at ok
  split at ok
  · rename_i dflt lo hi offs n e1
    obtain ⟨q1, q2, q3, q4, q5, q6, q7⟩ := of_decide_eq_true ok
    subst q1
    unfold zo_switch at K
    split at K
    · rename_i x9 st9
      have tgt : ∀ (i t : Nat), ts[i]? = some t → offs[i]? = some ((t : Int) - (pc : Int)) := by
        intro i t ht
        rw [← Array.getElem?_toList, q4, List.getElem?_map, ht]
        rfl
      split at K
      · have q2 : lo = (r2 : Int) := q2
        rcases zsw_el ts r2 K with ⟨i, t, a1, a2, a3⟩ | ⟨a1, a2⟩
        · have hi9 : i < ts.length := (List.getElem?_eq_some_iff.mp a1).1
          have ex : x9.toInt = ((r2 + i : Nat) : Int) := by rw [a2]; exact nI_toInt (by omega)
          refine lv_tableIn (tgt := t) hx hb e1 (by rw [ex, q2]; omega) (by rw [ex, q3, q2]; omega) (by rw [ex, q2, show (((r2 + i : Nat) : Int) - (r2 : Int)).toNat = i by omega]; exact tgt i t a1) (by omega) (a3 p e R s m args below meth c H locs ls CX (zlm_kp _ hl) hR hL hsz h1 h2)
        · refine lv_tableOut (tgt := r1) hx hb e1 ?_ q5 (a2 p e R s m args below meth c H locs ls CX (zlm_kp _ hl) hR hL hsz h1 h2)
          by_cases z : x9.toInt < lo
          · exact Or.inl z
          · refine Or.inr (Int.not_le.mp fun z2 => ?_)
            have z3 : x9.toInt = ((r2 + (x9.toInt - (r2 : Int)).toNat : Nat) : Int) := by omega
            exact a1 (x9.toInt - (r2 : Int)).toNat (by omega) (zint (by omega) z3)
      · rename_i hr3
        have q7 : ts.length ≤ r2 := q7.resolve_left (fun z => hr3 z)
        have q2 : lo = -(r2 : Int) := by
          rw [q2]
          unfold zlow
          split
          · exact absurd rfl hr3
          · rfl
        rcases zswn_el ts r2 q7 K with ⟨i, t, a1, a2, a3⟩ | ⟨a1, a2⟩
        · have hi9 : i < ts.length := (List.getElem?_eq_some_iff.mp a1).1
          have ex : x9.toInt = -((r2 - i : Nat) : Int) := by rw [a2]; exact sb_negT (by omega)
          refine lv_tableIn (tgt := t) hx hb e1 (by rw [ex, q2]; omega) (by rw [ex, q3, q2]; omega) (by rw [ex, q2, show (-((r2 - i : Nat) : Int) - -(r2 : Int)).toNat = i by omega]; exact tgt i t a1) (by omega) (a3 p e R s m args below meth c H locs ls CX (zlm_kp _ hl) hR hL hsz h1 h2)
        · refine lv_tableOut (tgt := r1) hx hb e1 ?_ q5 (a2 p e R s m args below meth c H locs ls CX (zlm_kp _ hl) hR hL hsz h1 h2)
          by_cases z : x9.toInt < lo
          · exact Or.inl z
          · refine Or.inr (Int.not_le.mp fun z2 => ?_)
            have z3 : x9.toInt = -((r2 - (x9.toInt + (r2 : Int)).toNat : Nat) : Int) := by omega
            exact a1 (x9.toInt + (r2 : Int)).toNat (by omega) (zintn (by omega) z3)
    · exact K.elim
  · cases ok

