theorem zin {i : Int32} {n : Nat} (h : ¬ (i < 0 ∨ n ≤ i.toNatClampNeg)) : vp_in i n := h
theorem ztys_at {G : zG} {k : Nat} (hk : k < 5) : ∃ ty, (ztys G)[k]? = some (G.ac k, ty) := by
  match k, hk with
  | 0, _ => exact ⟨_, rfl⟩
  | 1, _ => exact ⟨_, rfl⟩
  | 2, _ => exact ⟨_, rfl⟩
  | 3, _ => exact ⟨_, rfl⟩
  | 4, _ => exact ⟨_, rfl⟩
  | n + 5, h => omega
theorem ztys_r {G : zG} {k : Nat} (h1 : ¬ k < 3) (h2 : ¬ 4 < k) : (ztys G)[k]? = some (G.ac k, .object (zrn k)) := by
  match k, h1, h2 with
  | 3, _, _ => rfl
  | 4, _, _ => rfl
  | 0, h, _ => omega
  | 1, h, _ => omega
  | 2, h, _ => omega
  | n + 5, _, h => omega
/-- a row among what was there before: the script, or a text's bytes -/
theorem zsc_row {G : zG} {a k : Nat} {x : vp_A} (h : zsc G a = some (.inl (k, x))) : (a = 997 ∧ k = 0 ∧ x = (G.sL, .inl G.xs)) ∨ ∃ j, j < 29 ∧ a = 2 * j + 1 ∧ k = 2 ∧ x = ((ztx j).length, .inl (fun i => nI ((ztx j).getD i 0))) := by
  unfold zsc at h
  split at h
  · rename_i h1
    cases h
    exact Or.inl ⟨h1, rfl, rfl⟩
  · split at h
    · rename_i h1 h2
      split at h
      · cases h
      · rename_i h3
        cases h
        exact Or.inr ⟨a / 2, by omega, by omega, rfl, rfl⟩
    · cases h
section ZH
variable {G : zG} {l : Launch} {d : Nat} {y : zY} {h0 : zH} {p : Program} {e : Env} {R : Room} {s : State} {m : MethodId} {args : Array Value} {below : List Frame} {meth : Method} {c : Code} {H : Heap} {locs : List Loc} {ls : Array Slot} {cells slots : Nat} {Q : State → Prop} {h h1 : zH} {pc a : Nat} {i : Int32} {rest : List Value}
theorem zkp0 (CX : zCX G l d y h0 p R s m args meth c) : ∀ a : Nat, a < G.H0.size → ¬ zA G a → s.heap[a]? = G.H0[a]? := fun a ha _ => by
  obtain ⟨-, -, -, -, -, -, -, -, hG, hR0, -⟩ := CX
  exact hR0.below (by rw [hG.2.1] at ha; exact ha)
theorem zlen (CX : zCX G l d y h0 p R s m args meth c) (hR : zRel G h H) (hL : ∀ z ∈ locs, G.sz ≤ z.base) (hsz : s.heap.size ≤ H.size) {v : Int32} (hd : decode y.cc pc = .ok (.arraylength, 1)) (ev : zal h a = some v)
    (K : W p l e R s m args below meth c H locs cells slots Q (F0 m (pc + 1) ls (.int v :: rest))) : W p l e R s m args below meth c H locs cells slots Q (F0 m pc ls (.ref (zad G a) :: rest)) := by
  obtain ⟨hx, hb, hr, hlk, hml, hown, hts, hnm, hG, hR0, hRm, hex⟩ := id CX
  unfold zal at ev
  split at ev
  · rename_i q x q1
    split at ev
    · rename_i q2
      have hv := Option.some.inj ev
      by_cases ha : a < 1000
      · rw [zad_lo ha]
        rcases zsc_row (hR.lo ha q1) with ⟨rfl, rfl, rfl⟩ | ⟨j, hj, rfl, rfl, rfl⟩
        · subst hv
          exact va_slen hx hb hG.2.2.2.2.2.2.2.2.2.1 (by rw [hG.2.1]; exact hG.2.2.2.2.2.2.2.2.2.2.1) (fun z => absurd (show G.sz ≤ G.ra 997 from z) (by have := hG.2.2.2.2.2.2.2.2.2.2.1; omega)) (A := zA G) (H0 := G.H0) ⟨by rw [hG.2.1]; exact hR.2.2.1, fun q g1 g2 => hR.below (by rw [hG.2.1] at g1; exact g1), hL⟩ hd K
        · exact va_tlen hx hb ((hG.2.2.2.2.2.2.2.2.1 j hj).2.2.2.kept (zkp0 CX)) (hR0.S hR hsz hL) hv hd K
      · obtain ⟨ty, ht⟩ := ztys_at (G := G) q2
        obtain ⟨n, z⟩ := x
        exact va_alen hx hb hG.2.2.1 (zone (hR.at (by omega) q1)) 0 q rfl ht hv hd K
    · cases ev
  · cases ev
theorem ziald (CX : zCX G l d y h0 p R s m args meth c) (hR : zRel G h H) (hL : ∀ z ∈ locs, G.sz ≤ z.base) {v : Int32} (hd : decode y.cc pc = .ok (.iaload, 1)) (ev : zia h a i = some v)
    (K : W p l e R s m args below meth c H locs cells slots Q (F0 m (pc + 1) ls (.int v :: rest))) : W p l e R s m args below meth c H locs cells slots Q (F0 m pc ls (.int i :: .ref (zad G a) :: rest)) := by
  obtain ⟨hx, hb, hr, hlk, hml, hown, hts, hnm, hG, hR0, hRm, hex⟩ := id CX
  unfold zia at ev
  split at ev
  · rename_i n f q1
    split at ev
    · cases ev
    · rename_i q2
      cases ev
      by_cases ha : a < 1000
      · rw [zad_lo ha]
        rcases zsc_row (hR.lo ha q1) with ⟨rfl, -, q3⟩ | ⟨j, hj, -, q3, -⟩
        · cases q3
          exact va_sld hx hb hG.2.2.2.2.2.2.2.2.2.1 (by rw [hG.2.1]; exact hG.2.2.2.2.2.2.2.2.2.2.1) (fun z => absurd (show G.sz ≤ G.ra 997 from z) (by have := hG.2.2.2.2.2.2.2.2.2.2.1; omega)) (A := zA G) (H0 := G.H0) ⟨by rw [hG.2.1]; exact hR.2.2.1, fun q g1 g2 => hR.below (by rw [hG.2.1] at g1; exact g1), hL⟩ (zin q2) hd K
        · cases q3
      · exact va_iald hx hb hG.2.2.1 (zone (hR.at (by omega) q1)) 0 0 rfl rfl (zin q2) hd K
  · cases ev
theorem zbald (CX : zCX G l d y h0 p R s m args meth c) (hR : zRel G h H) (hL : ∀ z ∈ locs, G.sz ≤ z.base) (hsz : s.heap.size ≤ H.size) {v : Int32} (hd : decode y.cc pc = .ok (.baload, 1)) (ev : zba h a i = some v)
    (K : W p l e R s m args below meth c H locs cells slots Q (F0 m (pc + 1) ls (.int v :: rest))) : W p l e R s m args below meth c H locs cells slots Q (F0 m pc ls (.int i :: .ref (zad G a) :: rest)) := by
  obtain ⟨hx, hb, hr, hlk, hml, hown, hts, hnm, hG, hR0, hRm, hex⟩ := id CX
  unfold zba at ev
  split at ev
  · rename_i n f q1
    split at ev
    · cases ev
    · rename_i q2
      cases ev
      by_cases ha : a < 1000
      · rw [zad_lo ha]
        rcases zsc_row (hR.lo ha q1) with ⟨-, q3, -⟩ | ⟨j, hj, rfl, -, q3⟩
        · cases q3
        · cases q3
          exact va_tb hx hb ((hG.2.2.2.2.2.2.2.2.1 j hj).2.2.2.kept (zkp0 CX)) (hR0.S hR hsz hL) (zin q2) rfl hd K
      · exact va_bald hx hb hG.2.2.1 (zone (hR.at (by omega) q1)) 0 2 rfl rfl (zin q2) hd K
  · cases ev
theorem zlald (CX : zCX G l d y h0 p R s m args meth c) (hR : zRel G h H) {v : Int64} (hd : decode y.cc pc = .ok (.laload, 1)) (ev : zla h a i = some v)
    (K : W p l e R s m args below meth c H locs cells slots Q (F0 m (pc + 1) ls (.long v :: rest))) : W p l e R s m args below meth c H locs cells slots Q (F0 m pc ls (.int i :: .ref (zad G a) :: rest)) := by
  obtain ⟨hx, hb, hr, hlk, hml, hown, hts, hnm, hG, hR0, hRm, hex⟩ := id CX
  unfold zla at ev
  split at ev
  · rename_i n f q1
    split at ev
    · cases ev
    · rename_i q2
      cases ev
      by_cases ha : a < 1000
      · rcases zsc_row (hR.lo ha q1) with ⟨-, q3, -⟩ | ⟨j, hj, -, q3, -⟩
        · cases q3
        · cases q3
      · exact va_lald hx hb hG.2.2.1 (zone (hR.at (by omega) q1)) 0 1 rfl rfl (zin q2) hd K
  · cases ev
theorem zaald (CX : zCX G l d y h0 p R s m args meth c) (hR : zRel G h H) {v : Nat} (hd : decode y.cc pc = .ok (.aaload, 1)) (ev : zaa h a i = some v)
    (K : W p l e R s m args below meth c H locs cells slots Q (F0 m (pc + 1) ls (.ref (zad G v) :: rest))) : W p l e R s m args below meth c H locs cells slots Q (F0 m pc ls (.int i :: .ref (zad G a) :: rest)) := by
  obtain ⟨hx, hb, hr, hlk, hml, hown, hts, hnm, hG, hR0, hRm, hex⟩ := id CX
  unfold zaa at ev
  split at ev
  · rename_i q n f q1
    split at ev
    · cases ev
    · rename_i q2
      simp only [not_or] at q2
      obtain ⟨z1, z2, z3⟩ := q2
      by_cases ha : a < 1000
      · rcases zsc_row (hR.lo ha q1) with ⟨-, -, q3⟩ | ⟨j, hj, -, -, q3⟩
        · cases q3
        · cases q3
      · refine va_aldq hx hb hG.2.2.1 (zone (hR.at (by omega) q1)) 0 q rfl (ztys_r z1 z2) (fun z => z.elim z3.1 z3.2) hd ?_
        show W p l e R s m args below meth c H locs cells slots Q (F0 m (pc + 1) ls (va_rf ((f i.toNatClampNeg).map (zad G)) :: rest))
        rw [ev]
        exact K
  · cases ev
end ZH
def zb_alen (cc : ByteArray) (pc len r1 r2 r3 : Nat) (ts : List Nat) : Bool := match decode cc pc with
  | .ok (.arraylength, n) => decide (n = 1 ∧ len = 1)
  | _ => false
theorem zb_alen_ok {cc : ByteArray} {pc len r1 r2 r3 : Nat} {ts : List Nat} (h : zb_alen cc pc len r1 r2 r3 ts = true) : decode cc pc = .ok (.arraylength, 1) ∧ len = 1 := by
  unfold zb_alen at h
  split at h
  · rename_i n e
    obtain ⟨h1, h2⟩ := of_decide_eq_true h
    rw [h1] at e
    exact ⟨e, h2⟩
  · cases h
theorem zx_alen {G : zG} {l : Launch} {d : Nat} {y : zY} {E : Nat → List Value → zH → (zR → zH → Prop) → Prop} {M : zM} {Q : zR → zH → Prop} {h0 : zH} {pc len r1 r2 r3 : Nat} {ts : List Nat} {lv : List (Nat × Value)} {st : List Value} {h : zH} (ok : zb_alen y.cc pc len r1 r2 r3 ts = true) (K : zo_alen E M Q (zP G l d y Q h0) pc len r1 r2 r3 ts lv st h) : zP G l d y Q h0 (pc, lv, st, h) := by
  intro p e R s m args below meth c H locs ls CX hl hR hL hsz h1 h2
  obtain ⟨hx, hb, hr, hlk, hml, hown, hts, hnm, hG, hR0, hRm, hex⟩ := id CX
  have hvc : G.vS.category = 1 := hG.2.2.2.2.2.1
  obtain ⟨hd, hn⟩ := zb_alen_ok ok
  subst hn
  unfold zo_alen at K
  split at K
  · obtain ⟨x, ev, K⟩ := K
    exact zlen CX hR hL hsz hd ev (K p e R s m args below meth c H locs ls CX (zlm_kp _ hl) hR hL hsz h1 h2)
  · exact K.elim

def zb_iald (cc : ByteArray) (pc len r1 r2 r3 : Nat) (ts : List Nat) : Bool := match decode cc pc with
  | .ok (.iaload, n) => decide (n = 1 ∧ len = 1)
  | _ => false
theorem zb_iald_ok {cc : ByteArray} {pc len r1 r2 r3 : Nat} {ts : List Nat} (h : zb_iald cc pc len r1 r2 r3 ts = true) : decode cc pc = .ok (.iaload, 1) ∧ len = 1 := by
  unfold zb_iald at h
  split at h
  · rename_i n e
    obtain ⟨h1, h2⟩ := of_decide_eq_true h
    rw [h1] at e
    exact ⟨e, h2⟩
  · cases h
theorem zx_iald {G : zG} {l : Launch} {d : Nat} {y : zY} {E : Nat → List Value → zH → (zR → zH → Prop) → Prop} {M : zM} {Q : zR → zH → Prop} {h0 : zH} {pc len r1 r2 r3 : Nat} {ts : List Nat} {lv : List (Nat × Value)} {st : List Value} {h : zH} (ok : zb_iald y.cc pc len r1 r2 r3 ts = true) (K : zo_iald E M Q (zP G l d y Q h0) pc len r1 r2 r3 ts lv st h) : zP G l d y Q h0 (pc, lv, st, h) := by
  intro p e R s m args below meth c H locs ls CX hl hR hL hsz h1 h2
  obtain ⟨hx, hb, hr, hlk, hml, hown, hts, hnm, hG, hR0, hRm, hex⟩ := id CX
  have hvc : G.vS.category = 1 := hG.2.2.2.2.2.1
  obtain ⟨hd, hn⟩ := zb_iald_ok ok
  subst hn
  unfold zo_iald at K
  split at K
  · obtain ⟨x, ev, K⟩ := K
    exact ziald CX hR hL hd ev (K p e R s m args below meth c H locs ls CX (zlm_kp _ hl) hR hL hsz h1 h2)
  · exact K.elim

def zb_bald (cc : ByteArray) (pc len r1 r2 r3 : Nat) (ts : List Nat) : Bool := match decode cc pc with
  | .ok (.baload, n) => decide (n = 1 ∧ len = 1)
  | _ => false
theorem zb_bald_ok {cc : ByteArray} {pc len r1 r2 r3 : Nat} {ts : List Nat} (h : zb_bald cc pc len r1 r2 r3 ts = true) : decode cc pc = .ok (.baload, 1) ∧ len = 1 := by
  unfold zb_bald at h
  split at h
  · rename_i n e
    obtain ⟨h1, h2⟩ := of_decide_eq_true h
    rw [h1] at e
    exact ⟨e, h2⟩
  · cases h
theorem zx_bald {G : zG} {l : Launch} {d : Nat} {y : zY} {E : Nat → List Value → zH → (zR → zH → Prop) → Prop} {M : zM} {Q : zR → zH → Prop} {h0 : zH} {pc len r1 r2 r3 : Nat} {ts : List Nat} {lv : List (Nat × Value)} {st : List Value} {h : zH} (ok : zb_bald y.cc pc len r1 r2 r3 ts = true) (K : zo_bald E M Q (zP G l d y Q h0) pc len r1 r2 r3 ts lv st h) : zP G l d y Q h0 (pc, lv, st, h) := by
  intro p e R s m args below meth c H locs ls CX hl hR hL hsz h1 h2
  obtain ⟨hx, hb, hr, hlk, hml, hown, hts, hnm, hG, hR0, hRm, hex⟩ := id CX
  have hvc : G.vS.category = 1 := hG.2.2.2.2.2.1
  obtain ⟨hd, hn⟩ := zb_bald_ok ok
  subst hn
  unfold zo_bald at K
  split at K
  · obtain ⟨x, ev, K⟩ := K
    exact zbald CX hR hL hsz hd ev (K p e R s m args below meth c H locs ls CX (zlm_kp _ hl) hR hL hsz h1 h2)
  · exact K.elim

def zb_lald (cc : ByteArray) (pc len r1 r2 r3 : Nat) (ts : List Nat) : Bool := match decode cc pc with
  | .ok (.laload, n) => decide (n = 1 ∧ len = 1)
  | _ => false
theorem zb_lald_ok {cc : ByteArray} {pc len r1 r2 r3 : Nat} {ts : List Nat} (h : zb_lald cc pc len r1 r2 r3 ts = true) : decode cc pc = .ok (.laload, 1) ∧ len = 1 := by
  unfold zb_lald at h
  split at h
  · rename_i n e
    obtain ⟨h1, h2⟩ := of_decide_eq_true h
    rw [h1] at e
    exact ⟨e, h2⟩
  · cases h
theorem zx_lald {G : zG} {l : Launch} {d : Nat} {y : zY} {E : Nat → List Value → zH → (zR → zH → Prop) → Prop} {M : zM} {Q : zR → zH → Prop} {h0 : zH} {pc len r1 r2 r3 : Nat} {ts : List Nat} {lv : List (Nat × Value)} {st : List Value} {h : zH} (ok : zb_lald y.cc pc len r1 r2 r3 ts = true) (K : zo_lald E M Q (zP G l d y Q h0) pc len r1 r2 r3 ts lv st h) : zP G l d y Q h0 (pc, lv, st, h) := by
  intro p e R s m args below meth c H locs ls CX hl hR hL hsz h1 h2
  obtain ⟨hx, hb, hr, hlk, hml, hown, hts, hnm, hG, hR0, hRm, hex⟩ := id CX
  have hvc : G.vS.category = 1 := hG.2.2.2.2.2.1
  obtain ⟨hd, hn⟩ := zb_lald_ok ok
  subst hn
  unfold zo_lald at K
  split at K
  · obtain ⟨x, ev, K⟩ := K
    exact zlald CX hR hd ev (K p e R s m args below meth c H locs ls CX (zlm_kp _ hl) hR hL hsz h1 h2)
  · exact K.elim

def zb_aald (cc : ByteArray) (pc len r1 r2 r3 : Nat) (ts : List Nat) : Bool := match decode cc pc with
  | .ok (.aaload, n) => decide (n = 1 ∧ len = 1)
  | _ => false
theorem zb_aald_ok {cc : ByteArray} {pc len r1 r2 r3 : Nat} {ts : List Nat} (h : zb_aald cc pc len r1 r2 r3 ts = true) : decode cc pc = .ok (.aaload, 1) ∧ len = 1 := by
  unfold zb_aald at h
  split at h
  · rename_i n e
    obtain ⟨h1, h2⟩ := of_decide_eq_true h
    rw [h1] at e
    exact ⟨e, h2⟩
  · cases h
theorem zx_aald {G : zG} {l : Launch} {d : Nat} {y : zY} {E : Nat → List Value → zH → (zR → zH → Prop) → Prop} {M : zM} {Q : zR → zH → Prop} {h0 : zH} {pc len r1 r2 r3 : Nat} {ts : List Nat} {lv : List (Nat × Value)} {st : List Value} {h : zH} (ok : zb_aald y.cc pc len r1 r2 r3 ts = true) (K : zo_aald E M Q (zP G l d y Q h0) pc len r1 r2 r3 ts lv st h) : zP G l d y Q h0 (pc, lv, st, h) := by
  intro p e R s m args below meth c H locs ls CX hl hR hL hsz h1 h2
  obtain ⟨hx, hb, hr, hlk, hml, hown, hts, hnm, hG, hR0, hRm, hex⟩ := id CX
  have hvc : G.vS.category = 1 := hG.2.2.2.2.2.1
  obtain ⟨hd, hn⟩ := zb_aald_ok ok
  subst hn
  unfold zo_aald at K
  split at K
  · obtain ⟨x, ev, K⟩ := K
    exact zaald CX hR hd ev (K p e R s m args below meth c H locs ls CX (zlm_kp _ hl) hR hL hsz h1 h2)
  · exact K.elim

