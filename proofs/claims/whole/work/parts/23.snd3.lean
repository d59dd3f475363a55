def zb_iadd (cc : ByteArray) (pc len r1 r2 r3 : Nat) (ts : List Nat) : Bool := match decode cc pc with
  | .ok (.iadd, n) => decide (n = 1 ∧ len = 1)
  | _ => false
theorem zb_iadd_ok {cc : ByteArray} {pc len r1 r2 r3 : Nat} {ts : List Nat} (h : zb_iadd cc pc len r1 r2 r3 ts = true) : decode cc pc = .ok (.iadd, 1) ∧ len = 1 := by
  unfold zb_iadd at h
  split at h
  · rename_i n e
    obtain ⟨h1, h2⟩ := of_decide_eq_true h
    rw [h1] at e
    exact ⟨e, h2⟩
  · cases h
theorem zx_iadd {G : zG} {l : Launch} {d : Nat} {y : zY} {E : Nat → List Value → zH → (zR → zH → Prop) → Prop} {M : zM} {Q : zR → zH → Prop} {h0 : zH} {pc len r1 r2 r3 : Nat} {ts : List Nat} {lv : List (Nat × Value)} {st : List Value} {h : zH} (ok : zb_iadd y.cc pc len r1 r2 r3 ts = true) (K : zo_iadd E M Q (zP G l d y Q h0) pc len r1 r2 r3 ts lv st h) : zP G l d y Q h0 (pc, lv, st, h) := by
  intro p e R s m args below meth c H locs ls CX hl hR hL hsz h1 h2
  obtain ⟨hx, hb, hr, hlk, hml, hown, hts, hnm, hG, hR0, hRm, hex⟩ := id CX
  have hvc : G.vS.category = 1 := hG.2.2.2.2.2.1
  obtain ⟨hd, hn⟩ := zb_iadd_ok ok
  subst hn
  unfold zo_iadd at K
  split at K
  · exact lv_iadd hx hb hd (K p e R s m args below meth c H locs ls CX (zlm_kp _ hl) hR hL hsz h1 h2)
  · exact K.elim

def zb_isub (cc : ByteArray) (pc len r1 r2 r3 : Nat) (ts : List Nat) : Bool := match decode cc pc with
  | .ok (.isub, n) => decide (n = 1 ∧ len = 1)
  | _ => false
theorem zb_isub_ok {cc : ByteArray} {pc len r1 r2 r3 : Nat} {ts : List Nat} (h : zb_isub cc pc len r1 r2 r3 ts = true) : decode cc pc = .ok (.isub, 1) ∧ len = 1 := by
  unfold zb_isub at h
  split at h
  · rename_i n e
    obtain ⟨h1, h2⟩ := of_decide_eq_true h
    rw [h1] at e
    exact ⟨e, h2⟩
  · cases h
theorem zx_isub {G : zG} {l : Launch} {d : Nat} {y : zY} {E : Nat → List Value → zH → (zR → zH → Prop) → Prop} {M : zM} {Q : zR → zH → Prop} {h0 : zH} {pc len r1 r2 r3 : Nat} {ts : List Nat} {lv : List (Nat × Value)} {st : List Value} {h : zH} (ok : zb_isub y.cc pc len r1 r2 r3 ts = true) (K : zo_isub E M Q (zP G l d y Q h0) pc len r1 r2 r3 ts lv st h) : zP G l d y Q h0 (pc, lv, st, h) := by
  intro p e R s m args below meth c H locs ls CX hl hR hL hsz h1 h2
  obtain ⟨hx, hb, hr, hlk, hml, hown, hts, hnm, hG, hR0, hRm, hex⟩ := id CX
  have hvc : G.vS.category = 1 := hG.2.2.2.2.2.1
  obtain ⟨hd, hn⟩ := zb_isub_ok ok
  subst hn
  unfold zo_isub at K
  split at K
  · exact lv_isub hx hb hd (K p e R s m args below meth c H locs ls CX (zlm_kp _ hl) hR hL hsz h1 h2)
  · exact K.elim

def zb_imul (cc : ByteArray) (pc len r1 r2 r3 : Nat) (ts : List Nat) : Bool := match decode cc pc with
  | .ok (.imul, n) => decide (n = 1 ∧ len = 1)
  | _ => false
theorem zb_imul_ok {cc : ByteArray} {pc len r1 r2 r3 : Nat} {ts : List Nat} (h : zb_imul cc pc len r1 r2 r3 ts = true) : decode cc pc = .ok (.imul, 1) ∧ len = 1 := by
  unfold zb_imul at h
  split at h
  · rename_i n e
    obtain ⟨h1, h2⟩ := of_decide_eq_true h
    rw [h1] at e
    exact ⟨e, h2⟩
  · cases h
theorem zx_imul {G : zG} {l : Launch} {d : Nat} {y : zY} {E : Nat → List Value → zH → (zR → zH → Prop) → Prop} {M : zM} {Q : zR → zH → Prop} {h0 : zH} {pc len r1 r2 r3 : Nat} {ts : List Nat} {lv : List (Nat × Value)} {st : List Value} {h : zH} (ok : zb_imul y.cc pc len r1 r2 r3 ts = true) (K : zo_imul E M Q (zP G l d y Q h0) pc len r1 r2 r3 ts lv st h) : zP G l d y Q h0 (pc, lv, st, h) := by
  intro p e R s m args below meth c H locs ls CX hl hR hL hsz h1 h2
  obtain ⟨hx, hb, hr, hlk, hml, hown, hts, hnm, hG, hR0, hRm, hex⟩ := id CX
  have hvc : G.vS.category = 1 := hG.2.2.2.2.2.1
  obtain ⟨hd, hn⟩ := zb_imul_ok ok
  subst hn
  unfold zo_imul at K
  split at K
  · exact lv_imul hx hb hd (K p e R s m args below meth c H locs ls CX (zlm_kp _ hl) hR hL hsz h1 h2)
  · exact K.elim

def zb_iand (cc : ByteArray) (pc len r1 r2 r3 : Nat) (ts : List Nat) : Bool := match decode cc pc with
  | .ok (.iand, n) => decide (n = 1 ∧ len = 1)
  | _ => false
theorem zb_iand_ok {cc : ByteArray} {pc len r1 r2 r3 : Nat} {ts : List Nat} (h : zb_iand cc pc len r1 r2 r3 ts = true) : decode cc pc = .ok (.iand, 1) ∧ len = 1 := by
  unfold zb_iand at h
  split at h
  · rename_i n e
    obtain ⟨h1, h2⟩ := of_decide_eq_true h
    rw [h1] at e
    exact ⟨e, h2⟩
  · cases h
theorem zx_iand {G : zG} {l : Launch} {d : Nat} {y : zY} {E : Nat → List Value → zH → (zR → zH → Prop) → Prop} {M : zM} {Q : zR → zH → Prop} {h0 : zH} {pc len r1 r2 r3 : Nat} {ts : List Nat} {lv : List (Nat × Value)} {st : List Value} {h : zH} (ok : zb_iand y.cc pc len r1 r2 r3 ts = true) (K : zo_iand E M Q (zP G l d y Q h0) pc len r1 r2 r3 ts lv st h) : zP G l d y Q h0 (pc, lv, st, h) := by
  intro p e R s m args below meth c H locs ls CX hl hR hL hsz h1 h2
  obtain ⟨hx, hb, hr, hlk, hml, hown, hts, hnm, hG, hR0, hRm, hex⟩ := id CX
  have hvc : G.vS.category = 1 := hG.2.2.2.2.2.1
  obtain ⟨hd, hn⟩ := zb_iand_ok ok
  subst hn
  unfold zo_iand at K
  split at K
  · exact lv_iand hx hb hd (K p e R s m args below meth c H locs ls CX (zlm_kp _ hl) hR hL hsz h1 h2)
  · exact K.elim

def zb_ior (cc : ByteArray) (pc len r1 r2 r3 : Nat) (ts : List Nat) : Bool := match decode cc pc with
  | .ok (.ior, n) => decide (n = 1 ∧ len = 1)
  | _ => false
theorem zb_ior_ok {cc : ByteArray} {pc len r1 r2 r3 : Nat} {ts : List Nat} (h : zb_ior cc pc len r1 r2 r3 ts = true) : decode cc pc = .ok (.ior, 1) ∧ len = 1 := by
  unfold zb_ior at h
  split at h
  · rename_i n e
    obtain ⟨h1, h2⟩ := of_decide_eq_true h
    rw [h1] at e
    exact ⟨e, h2⟩
  · cases h
theorem zx_ior {G : zG} {l : Launch} {d : Nat} {y : zY} {E : Nat → List Value → zH → (zR → zH → Prop) → Prop} {M : zM} {Q : zR → zH → Prop} {h0 : zH} {pc len r1 r2 r3 : Nat} {ts : List Nat} {lv : List (Nat × Value)} {st : List Value} {h : zH} (ok : zb_ior y.cc pc len r1 r2 r3 ts = true) (K : zo_ior E M Q (zP G l d y Q h0) pc len r1 r2 r3 ts lv st h) : zP G l d y Q h0 (pc, lv, st, h) := by
  intro p e R s m args below meth c H locs ls CX hl hR hL hsz h1 h2
  obtain ⟨hx, hb, hr, hlk, hml, hown, hts, hnm, hG, hR0, hRm, hex⟩ := id CX
  have hvc : G.vS.category = 1 := hG.2.2.2.2.2.1
  obtain ⟨hd, hn⟩ := zb_ior_ok ok
  subst hn
  unfold zo_ior at K
  split at K
  · exact lv_ior hx hb hd (K p e R s m args below meth c H locs ls CX (zlm_kp _ hl) hR hL hsz h1 h2)
  · exact K.elim

def zb_ixor (cc : ByteArray) (pc len r1 r2 r3 : Nat) (ts : List Nat) : Bool := match decode cc pc with
  | .ok (.ixor, n) => decide (n = 1 ∧ len = 1)
  | _ => false
theorem zb_ixor_ok {cc : ByteArray} {pc len r1 r2 r3 : Nat} {ts : List Nat} (h : zb_ixor cc pc len r1 r2 r3 ts = true) : decode cc pc = .ok (.ixor, 1) ∧ len = 1 := by
  unfold zb_ixor at h
  split at h
  · rename_i n e
    obtain ⟨h1, h2⟩ := of_decide_eq_true h
    rw [h1] at e
    exact ⟨e, h2⟩
  · cases h
theorem zx_ixor {G : zG} {l : Launch} {d : Nat} {y : zY} {E : Nat → List Value → zH → (zR → zH → Prop) → Prop} {M : zM} {Q : zR → zH → Prop} {h0 : zH} {pc len r1 r2 r3 : Nat} {ts : List Nat} {lv : List (Nat × Value)} {st : List Value} {h : zH} (ok : zb_ixor y.cc pc len r1 r2 r3 ts = true) (K : zo_ixor E M Q (zP G l d y Q h0) pc len r1 r2 r3 ts lv st h) : zP G l d y Q h0 (pc, lv, st, h) := by
  intro p e R s m args below meth c H locs ls CX hl hR hL hsz h1 h2
  obtain ⟨hx, hb, hr, hlk, hml, hown, hts, hnm, hG, hR0, hRm, hex⟩ := id CX
  have hvc : G.vS.category = 1 := hG.2.2.2.2.2.1
  obtain ⟨hd, hn⟩ := zb_ixor_ok ok
  subst hn
  unfold zo_ixor at K
  split at K
  · exact lv_ixor hx hb hd (K p e R s m args below meth c H locs ls CX (zlm_kp _ hl) hR hL hsz h1 h2)
  · exact K.elim

def zb_ishl (cc : ByteArray) (pc len r1 r2 r3 : Nat) (ts : List Nat) : Bool := match decode cc pc with
  | .ok (.ishl, n) => decide (n = 1 ∧ len = 1)
  | _ => false
theorem zb_ishl_ok {cc : ByteArray} {pc len r1 r2 r3 : Nat} {ts : List Nat} (h : zb_ishl cc pc len r1 r2 r3 ts = true) : decode cc pc = .ok (.ishl, 1) ∧ len = 1 := by
  unfold zb_ishl at h
  split at h
  · rename_i n e
    obtain ⟨h1, h2⟩ := of_decide_eq_true h
    rw [h1] at e
    exact ⟨e, h2⟩
  · cases h
theorem zx_ishl {G : zG} {l : Launch} {d : Nat} {y : zY} {E : Nat → List Value → zH → (zR → zH → Prop) → Prop} {M : zM} {Q : zR → zH → Prop} {h0 : zH} {pc len r1 r2 r3 : Nat} {ts : List Nat} {lv : List (Nat × Value)} {st : List Value} {h : zH} (ok : zb_ishl y.cc pc len r1 r2 r3 ts = true) (K : zo_ishl E M Q (zP G l d y Q h0) pc len r1 r2 r3 ts lv st h) : zP G l d y Q h0 (pc, lv, st, h) := by
  intro p e R s m args below meth c H locs ls CX hl hR hL hsz h1 h2
  obtain ⟨hx, hb, hr, hlk, hml, hown, hts, hnm, hG, hR0, hRm, hex⟩ := id CX
  have hvc : G.vS.category = 1 := hG.2.2.2.2.2.1
  obtain ⟨hd, hn⟩ := zb_ishl_ok ok
  subst hn
  unfold zo_ishl at K
  split at K
  · exact lv_ishl hx hb hd (K p e R s m args below meth c H locs ls CX (zlm_kp _ hl) hR hL hsz h1 h2)
  · exact K.elim

def zb_ishr (cc : ByteArray) (pc len r1 r2 r3 : Nat) (ts : List Nat) : Bool := match decode cc pc with
  | .ok (.ishr, n) => decide (n = 1 ∧ len = 1)
  | _ => false
theorem zb_ishr_ok {cc : ByteArray} {pc len r1 r2 r3 : Nat} {ts : List Nat} (h : zb_ishr cc pc len r1 r2 r3 ts = true) : decode cc pc = .ok (.ishr, 1) ∧ len = 1 := by
  unfold zb_ishr at h
  split at h
  · rename_i n e
    obtain ⟨h1, h2⟩ := of_decide_eq_true h
    rw [h1] at e
    exact ⟨e, h2⟩
  · cases h
theorem zx_ishr {G : zG} {l : Launch} {d : Nat} {y : zY} {E : Nat → List Value → zH → (zR → zH → Prop) → Prop} {M : zM} {Q : zR → zH → Prop} {h0 : zH} {pc len r1 r2 r3 : Nat} {ts : List Nat} {lv : List (Nat × Value)} {st : List Value} {h : zH} (ok : zb_ishr y.cc pc len r1 r2 r3 ts = true) (K : zo_ishr E M Q (zP G l d y Q h0) pc len r1 r2 r3 ts lv st h) : zP G l d y Q h0 (pc, lv, st, h) := by
  intro p e R s m args below meth c H locs ls CX hl hR hL hsz h1 h2
  obtain ⟨hx, hb, hr, hlk, hml, hown, hts, hnm, hG, hR0, hRm, hex⟩ := id CX
  have hvc : G.vS.category = 1 := hG.2.2.2.2.2.1
  obtain ⟨hd, hn⟩ := zb_ishr_ok ok
  subst hn
  unfold zo_ishr at K
  split at K
  · exact lv_ishr hx hb hd (K p e R s m args below meth c H locs ls CX (zlm_kp _ hl) hR hL hsz h1 h2)
  · exact K.elim

def zb_land (cc : ByteArray) (pc len r1 r2 r3 : Nat) (ts : List Nat) : Bool := match decode cc pc with
  | .ok (.land, n) => decide (n = 1 ∧ len = 1)
  | _ => false
theorem zb_land_ok {cc : ByteArray} {pc len r1 r2 r3 : Nat} {ts : List Nat} (h : zb_land cc pc len r1 r2 r3 ts = true) : decode cc pc = .ok (.land, 1) ∧ len = 1 := by
  unfold zb_land at h
  split at h
  · rename_i n e
    obtain ⟨h1, h2⟩ := of_decide_eq_true h
    rw [h1] at e
    exact ⟨e, h2⟩
  · cases h
theorem zx_land {G : zG} {l : Launch} {d : Nat} {y : zY} {E : Nat → List Value → zH → (zR → zH → Prop) → Prop} {M : zM} {Q : zR → zH → Prop} {h0 : zH} {pc len r1 r2 r3 : Nat} {ts : List Nat} {lv : List (Nat × Value)} {st : List Value} {h : zH} (ok : zb_land y.cc pc len r1 r2 r3 ts = true) (K : zo_land E M Q (zP G l d y Q h0) pc len r1 r2 r3 ts lv st h) : zP G l d y Q h0 (pc, lv, st, h) := by
  intro p e R s m args below meth c H locs ls CX hl hR hL hsz h1 h2
  obtain ⟨hx, hb, hr, hlk, hml, hown, hts, hnm, hG, hR0, hRm, hex⟩ := id CX
  have hvc : G.vS.category = 1 := hG.2.2.2.2.2.1
  obtain ⟨hd, hn⟩ := zb_land_ok ok
  subst hn
  unfold zo_land at K
  split at K
  · exact lv_land hx hb hd (K p e R s m args below meth c H locs ls CX (zlm_kp _ hl) hR hL hsz h1 h2)
  · exact K.elim

def zb_lor (cc : ByteArray) (pc len r1 r2 r3 : Nat) (ts : List Nat) : Bool := match decode cc pc with
  | .ok (.lor, n) => decide (n = 1 ∧ len = 1)
  | _ => false
theorem zb_lor_ok {cc : ByteArray} {pc len r1 r2 r3 : Nat} {ts : List Nat} (h : zb_lor cc pc len r1 r2 r3 ts = true) : decode cc pc = .ok (.lor, 1) ∧ len = 1 := by
  unfold zb_lor at h
  split at h
  · rename_i n e
    obtain ⟨h1, h2⟩ := of_decide_eq_true h
    rw [h1] at e
    exact ⟨e, h2⟩
  · cases h
theorem zx_lor {G : zG} {l : Launch} {d : Nat} {y : zY} {E : Nat → List Value → zH → (zR → zH → Prop) → Prop} {M : zM} {Q : zR → zH → Prop} {h0 : zH} {pc len r1 r2 r3 : Nat} {ts : List Nat} {lv : List (Nat × Value)} {st : List Value} {h : zH} (ok : zb_lor y.cc pc len r1 r2 r3 ts = true) (K : zo_lor E M Q (zP G l d y Q h0) pc len r1 r2 r3 ts lv st h) : zP G l d y Q h0 (pc, lv, st, h) := by
  intro p e R s m args below meth c H locs ls CX hl hR hL hsz h1 h2
  obtain ⟨hx, hb, hr, hlk, hml, hown, hts, hnm, hG, hR0, hRm, hex⟩ := id CX
  have hvc : G.vS.category = 1 := hG.2.2.2.2.2.1
  obtain ⟨hd, hn⟩ := zb_lor_ok ok
  subst hn
  unfold zo_lor at K
  split at K
  · exact lv_lor hx hb hd (K p e R s m args below meth c H locs ls CX (zlm_kp _ hl) hR hL hsz h1 h2)
  · exact K.elim

def zb_lxor (cc : ByteArray) (pc len r1 r2 r3 : Nat) (ts : List Nat) : Bool := match decode cc pc with
  | .ok (.lxor, n) => decide (n = 1 ∧ len = 1)
  | _ => false
theorem zb_lxor_ok {cc : ByteArray} {pc len r1 r2 r3 : Nat} {ts : List Nat} (h : zb_lxor cc pc len r1 r2 r3 ts = true) : decode cc pc = .ok (.lxor, 1) ∧ len = 1 := by
  unfold zb_lxor at h
  split at h
  · rename_i n e
    obtain ⟨h1, h2⟩ := of_decide_eq_true h
    rw [h1] at e
    exact ⟨e, h2⟩
  · cases h
theorem zx_lxor {G : zG} {l : Launch} {d : Nat} {y : zY} {E : Nat → List Value → zH → (zR → zH → Prop) → Prop} {M : zM} {Q : zR → zH → Prop} {h0 : zH} {pc len r1 r2 r3 : Nat} {ts : List Nat} {lv : List (Nat × Value)} {st : List Value} {h : zH} (ok : zb_lxor y.cc pc len r1 r2 r3 ts = true) (K : zo_lxor E M Q (zP G l d y Q h0) pc len r1 r2 r3 ts lv st h) : zP G l d y Q h0 (pc, lv, st, h) := by
  intro p e R s m args below meth c H locs ls CX hl hR hL hsz h1 h2
  obtain ⟨hx, hb, hr, hlk, hml, hown, hts, hnm, hG, hR0, hRm, hex⟩ := id CX
  have hvc : G.vS.category = 1 := hG.2.2.2.2.2.1
  obtain ⟨hd, hn⟩ := zb_lxor_ok ok
  subst hn
  unfold zo_lxor at K
  split at K
  · exact lv_lxor hx hb hd (K p e R s m args below meth c H locs ls CX (zlm_kp _ hl) hR hL hsz h1 h2)
  · exact K.elim

def zb_ineg (cc : ByteArray) (pc len r1 r2 r3 : Nat) (ts : List Nat) : Bool := match decode cc pc with
  | .ok (.ineg, n) => decide (n = 1 ∧ len = 1)
  | _ => false
theorem zb_ineg_ok {cc : ByteArray} {pc len r1 r2 r3 : Nat} {ts : List Nat} (h : zb_ineg cc pc len r1 r2 r3 ts = true) : decode cc pc = .ok (.ineg, 1) ∧ len = 1 := by
  unfold zb_ineg at h
  split at h
  · rename_i n e
    obtain ⟨h1, h2⟩ := of_decide_eq_true h
    rw [h1] at e
    exact ⟨e, h2⟩
  · cases h
theorem zx_ineg {G : zG} {l : Launch} {d : Nat} {y : zY} {E : Nat → List Value → zH → (zR → zH → Prop) → Prop} {M : zM} {Q : zR → zH → Prop} {h0 : zH} {pc len r1 r2 r3 : Nat} {ts : List Nat} {lv : List (Nat × Value)} {st : List Value} {h : zH} (ok : zb_ineg y.cc pc len r1 r2 r3 ts = true) (K : zo_ineg E M Q (zP G l d y Q h0) pc len r1 r2 r3 ts lv st h) : zP G l d y Q h0 (pc, lv, st, h) := by
  intro p e R s m args below meth c H locs ls CX hl hR hL hsz h1 h2
  obtain ⟨hx, hb, hr, hlk, hml, hown, hts, hnm, hG, hR0, hRm, hex⟩ := id CX
  have hvc : G.vS.category = 1 := hG.2.2.2.2.2.1
  obtain ⟨hd, hn⟩ := zb_ineg_ok ok
  subst hn
  unfold zo_ineg at K
  split at K
  · exact lv_ineg hx hb hd (K p e R s m args below meth c H locs ls CX (zlm_kp _ hl) hR hL hsz h1 h2)
  · exact K.elim

def zb_iushr (cc : ByteArray) (pc len r1 r2 r3 : Nat) (ts : List Nat) : Bool := match decode cc pc with
  | .ok (.iushr, n) => decide (n = 1 ∧ len = 1)
  | _ => false
theorem zb_iushr_ok {cc : ByteArray} {pc len r1 r2 r3 : Nat} {ts : List Nat} (h : zb_iushr cc pc len r1 r2 r3 ts = true) : decode cc pc = .ok (.iushr, 1) ∧ len = 1 := by
  unfold zb_iushr at h
  split at h
  · rename_i n e
    obtain ⟨h1, h2⟩ := of_decide_eq_true h
    rw [h1] at e
    exact ⟨e, h2⟩
  · cases h
theorem zx_iushr {G : zG} {l : Launch} {d : Nat} {y : zY} {E : Nat → List Value → zH → (zR → zH → Prop) → Prop} {M : zM} {Q : zR → zH → Prop} {h0 : zH} {pc len r1 r2 r3 : Nat} {ts : List Nat} {lv : List (Nat × Value)} {st : List Value} {h : zH} (ok : zb_iushr y.cc pc len r1 r2 r3 ts = true) (K : zo_iushr E M Q (zP G l d y Q h0) pc len r1 r2 r3 ts lv st h) : zP G l d y Q h0 (pc, lv, st, h) := by
  intro p e R s m args below meth c H locs ls CX hl hR hL hsz h1 h2
  obtain ⟨hx, hb, hr, hlk, hml, hown, hts, hnm, hG, hR0, hRm, hex⟩ := id CX
  have hvc : G.vS.category = 1 := hG.2.2.2.2.2.1
  obtain ⟨hd, hn⟩ := zb_iushr_ok ok
  subst hn
  unfold zo_iushr at K
  split at K
  · exact lv_iushr hx hb hd rfl (K p e R s m args below meth c H locs ls CX (zlm_kp _ hl) hR hL hsz h1 h2)
  · exact K.elim

def zb_lshl (cc : ByteArray) (pc len r1 r2 r3 : Nat) (ts : List Nat) : Bool := match decode cc pc with
  | .ok (.lshl, n) => decide (n = 1 ∧ len = 1)
  | _ => false
theorem zb_lshl_ok {cc : ByteArray} {pc len r1 r2 r3 : Nat} {ts : List Nat} (h : zb_lshl cc pc len r1 r2 r3 ts = true) : decode cc pc = .ok (.lshl, 1) ∧ len = 1 := by
  unfold zb_lshl at h
  split at h
  · rename_i n e
    obtain ⟨h1, h2⟩ := of_decide_eq_true h
    rw [h1] at e
    exact ⟨e, h2⟩
  · cases h
theorem zx_lshl {G : zG} {l : Launch} {d : Nat} {y : zY} {E : Nat → List Value → zH → (zR → zH → Prop) → Prop} {M : zM} {Q : zR → zH → Prop} {h0 : zH} {pc len r1 r2 r3 : Nat} {ts : List Nat} {lv : List (Nat × Value)} {st : List Value} {h : zH} (ok : zb_lshl y.cc pc len r1 r2 r3 ts = true) (K : zo_lshl E M Q (zP G l d y Q h0) pc len r1 r2 r3 ts lv st h) : zP G l d y Q h0 (pc, lv, st, h) := by
  intro p e R s m args below meth c H locs ls CX hl hR hL hsz h1 h2
  obtain ⟨hx, hb, hr, hlk, hml, hown, hts, hnm, hG, hR0, hRm, hex⟩ := id CX
  have hvc : G.vS.category = 1 := hG.2.2.2.2.2.1
  obtain ⟨hd, hn⟩ := zb_lshl_ok ok
  subst hn
  unfold zo_lshl at K
  split at K
  · exact lv_lshl hx hb hd rfl (K p e R s m args below meth c H locs ls CX (zlm_kp _ hl) hR hL hsz h1 h2)
  · exact K.elim

def zb_lushr (cc : ByteArray) (pc len r1 r2 r3 : Nat) (ts : List Nat) : Bool := match decode cc pc with
  | .ok (.lushr, n) => decide (n = 1 ∧ len = 1)
  | _ => false
theorem zb_lushr_ok {cc : ByteArray} {pc len r1 r2 r3 : Nat} {ts : List Nat} (h : zb_lushr cc pc len r1 r2 r3 ts = true) : decode cc pc = .ok (.lushr, 1) ∧ len = 1 := by
  unfold zb_lushr at h
  split at h
  · rename_i n e
    obtain ⟨h1, h2⟩ := of_decide_eq_true h
    rw [h1] at e
    exact ⟨e, h2⟩
  · cases h
theorem zx_lushr {G : zG} {l : Launch} {d : Nat} {y : zY} {E : Nat → List Value → zH → (zR → zH → Prop) → Prop} {M : zM} {Q : zR → zH → Prop} {h0 : zH} {pc len r1 r2 r3 : Nat} {ts : List Nat} {lv : List (Nat × Value)} {st : List Value} {h : zH} (ok : zb_lushr y.cc pc len r1 r2 r3 ts = true) (K : zo_lushr E M Q (zP G l d y Q h0) pc len r1 r2 r3 ts lv st h) : zP G l d y Q h0 (pc, lv, st, h) := by
  intro p e R s m args below meth c H locs ls CX hl hR hL hsz h1 h2
  obtain ⟨hx, hb, hr, hlk, hml, hown, hts, hnm, hG, hR0, hRm, hex⟩ := id CX
  have hvc : G.vS.category = 1 := hG.2.2.2.2.2.1
  obtain ⟨hd, hn⟩ := zb_lushr_ok ok
  subst hn
  unfold zo_lushr at K
  split at K
  · exact lv_lushr hx hb hd rfl (K p e R s m args below meth c H locs ls CX (zlm_kp _ hl) hR hL hsz h1 h2)
  · exact K.elim

def zb_i2l (cc : ByteArray) (pc len r1 r2 r3 : Nat) (ts : List Nat) : Bool := match decode cc pc with
  | .ok (.i2l, n) => decide (n = 1 ∧ len = 1)
  | _ => false
theorem zb_i2l_ok {cc : ByteArray} {pc len r1 r2 r3 : Nat} {ts : List Nat} (h : zb_i2l cc pc len r1 r2 r3 ts = true) : decode cc pc = .ok (.i2l, 1) ∧ len = 1 := by
  unfold zb_i2l at h
  split at h
  · rename_i n e
    obtain ⟨h1, h2⟩ := of_decide_eq_true h
    rw [h1] at e
    exact ⟨e, h2⟩
  · cases h
theorem zx_i2l {G : zG} {l : Launch} {d : Nat} {y : zY} {E : Nat → List Value → zH → (zR → zH → Prop) → Prop} {M : zM} {Q : zR → zH → Prop} {h0 : zH} {pc len r1 r2 r3 : Nat} {ts : List Nat} {lv : List (Nat × Value)} {st : List Value} {h : zH} (ok : zb_i2l y.cc pc len r1 r2 r3 ts = true) (K : zo_i2l E M Q (zP G l d y Q h0) pc len r1 r2 r3 ts lv st h) : zP G l d y Q h0 (pc, lv, st, h) := by
  intro p e R s m args below meth c H locs ls CX hl hR hL hsz h1 h2
  obtain ⟨hx, hb, hr, hlk, hml, hown, hts, hnm, hG, hR0, hRm, hex⟩ := id CX
  have hvc : G.vS.category = 1 := hG.2.2.2.2.2.1
  obtain ⟨hd, hn⟩ := zb_i2l_ok ok
  subst hn
  unfold zo_i2l at K
  split at K
  · exact lv_i2l hx hb hd rfl (K p e R s m args below meth c H locs ls CX (zlm_kp _ hl) hR hL hsz h1 h2)
  · exact K.elim

def zb_i2b (cc : ByteArray) (pc len r1 r2 r3 : Nat) (ts : List Nat) : Bool := match decode cc pc with
  | .ok (.i2b, n) => decide (n = 1 ∧ len = 1)
  | _ => false
theorem zb_i2b_ok {cc : ByteArray} {pc len r1 r2 r3 : Nat} {ts : List Nat} (h : zb_i2b cc pc len r1 r2 r3 ts = true) : decode cc pc = .ok (.i2b, 1) ∧ len = 1 := by
  unfold zb_i2b at h
  split at h
  · rename_i n e
    obtain ⟨h1, h2⟩ := of_decide_eq_true h
    rw [h1] at e
    exact ⟨e, h2⟩
  · cases h
theorem zx_i2b {G : zG} {l : Launch} {d : Nat} {y : zY} {E : Nat → List Value → zH → (zR → zH → Prop) → Prop} {M : zM} {Q : zR → zH → Prop} {h0 : zH} {pc len r1 r2 r3 : Nat} {ts : List Nat} {lv : List (Nat × Value)} {st : List Value} {h : zH} (ok : zb_i2b y.cc pc len r1 r2 r3 ts = true) (K : zo_i2b E M Q (zP G l d y Q h0) pc len r1 r2 r3 ts lv st h) : zP G l d y Q h0 (pc, lv, st, h) := by
  intro p e R s m args below meth c H locs ls CX hl hR hL hsz h1 h2
  obtain ⟨hx, hb, hr, hlk, hml, hown, hts, hnm, hG, hR0, hRm, hex⟩ := id CX
  have hvc : G.vS.category = 1 := hG.2.2.2.2.2.1
  obtain ⟨hd, hn⟩ := zb_i2b_ok ok
  subst hn
  unfold zo_i2b at K
  split at K
  · exact lv_i2b hx hb hd rfl (K p e R s m args below meth c H locs ls CX (zlm_kp _ hl) hR hL hsz h1 h2)
  · exact K.elim

def zb_i2c (cc : ByteArray) (pc len r1 r2 r3 : Nat) (ts : List Nat) : Bool := match decode cc pc with
  | .ok (.i2c, n) => decide (n = 1 ∧ len = 1)
  | _ => false
theorem zb_i2c_ok {cc : ByteArray} {pc len r1 r2 r3 : Nat} {ts : List Nat} (h : zb_i2c cc pc len r1 r2 r3 ts = true) : decode cc pc = .ok (.i2c, 1) ∧ len = 1 := by
  unfold zb_i2c at h
  split at h
  · rename_i n e
    obtain ⟨h1, h2⟩ := of_decide_eq_true h
    rw [h1] at e
    exact ⟨e, h2⟩
  · cases h
theorem zx_i2c {G : zG} {l : Launch} {d : Nat} {y : zY} {E : Nat → List Value → zH → (zR → zH → Prop) → Prop} {M : zM} {Q : zR → zH → Prop} {h0 : zH} {pc len r1 r2 r3 : Nat} {ts : List Nat} {lv : List (Nat × Value)} {st : List Value} {h : zH} (ok : zb_i2c y.cc pc len r1 r2 r3 ts = true) (K : zo_i2c E M Q (zP G l d y Q h0) pc len r1 r2 r3 ts lv st h) : zP G l d y Q h0 (pc, lv, st, h) := by
  intro p e R s m args below meth c H locs ls CX hl hR hL hsz h1 h2
  obtain ⟨hx, hb, hr, hlk, hml, hown, hts, hnm, hG, hR0, hRm, hex⟩ := id CX
  have hvc : G.vS.category = 1 := hG.2.2.2.2.2.1
  obtain ⟨hd, hn⟩ := zb_i2c_ok ok
  subst hn
  unfold zo_i2c at K
  split at K
  · exact lv_i2c hx hb hd rfl (K p e R s m args below meth c H locs ls CX (zlm_kp _ hl) hR hL hsz h1 h2)
  · exact K.elim

def zb_l2i (cc : ByteArray) (pc len r1 r2 r3 : Nat) (ts : List Nat) : Bool := match decode cc pc with
  | .ok (.l2i, n) => decide (n = 1 ∧ len = 1)
  | _ => false
theorem zb_l2i_ok {cc : ByteArray} {pc len r1 r2 r3 : Nat} {ts : List Nat} (h : zb_l2i cc pc len r1 r2 r3 ts = true) : decode cc pc = .ok (.l2i, 1) ∧ len = 1 := by
  unfold zb_l2i at h
  split at h
  · rename_i n e
    obtain ⟨h1, h2⟩ := of_decide_eq_true h
    rw [h1] at e
    exact ⟨e, h2⟩
  · cases h
theorem zx_l2i {G : zG} {l : Launch} {d : Nat} {y : zY} {E : Nat → List Value → zH → (zR → zH → Prop) → Prop} {M : zM} {Q : zR → zH → Prop} {h0 : zH} {pc len r1 r2 r3 : Nat} {ts : List Nat} {lv : List (Nat × Value)} {st : List Value} {h : zH} (ok : zb_l2i y.cc pc len r1 r2 r3 ts = true) (K : zo_l2i E M Q (zP G l d y Q h0) pc len r1 r2 r3 ts lv st h) : zP G l d y Q h0 (pc, lv, st, h) := by
  intro p e R s m args below meth c H locs ls CX hl hR hL hsz h1 h2
  obtain ⟨hx, hb, hr, hlk, hml, hown, hts, hnm, hG, hR0, hRm, hex⟩ := id CX
  have hvc : G.vS.category = 1 := hG.2.2.2.2.2.1
  obtain ⟨hd, hn⟩ := zb_l2i_ok ok
  subst hn
  unfold zo_l2i at K
  split at K
  · exact lv_l2i hx hb hd rfl (K p e R s m args below meth c H locs ls CX (zlm_kp _ hl) hR hL hsz h1 h2)
  · exact K.elim

def zb_idiv (cc : ByteArray) (pc len r1 r2 r3 : Nat) (ts : List Nat) : Bool := match decode cc pc with
  | .ok (.idiv, n) => decide (n = 1 ∧ len = 1)
  | _ => false
theorem zb_idiv_ok {cc : ByteArray} {pc len r1 r2 r3 : Nat} {ts : List Nat} (h : zb_idiv cc pc len r1 r2 r3 ts = true) : decode cc pc = .ok (.idiv, 1) ∧ len = 1 := by
  unfold zb_idiv at h
  split at h
  · rename_i n e
    obtain ⟨h1, h2⟩ := of_decide_eq_true h
    rw [h1] at e
    exact ⟨e, h2⟩
  · cases h
theorem zx_idiv {G : zG} {l : Launch} {d : Nat} {y : zY} {E : Nat → List Value → zH → (zR → zH → Prop) → Prop} {M : zM} {Q : zR → zH → Prop} {h0 : zH} {pc len r1 r2 r3 : Nat} {ts : List Nat} {lv : List (Nat × Value)} {st : List Value} {h : zH} (ok : zb_idiv y.cc pc len r1 r2 r3 ts = true) (K : zo_idiv E M Q (zP G l d y Q h0) pc len r1 r2 r3 ts lv st h) : zP G l d y Q h0 (pc, lv, st, h) := by
  intro p e R s m args below meth c H locs ls CX hl hR hL hsz h1 h2
  obtain ⟨hx, hb, hr, hlk, hml, hown, hts, hnm, hG, hR0, hRm, hex⟩ := id CX
  have hvc : G.vS.category = 1 := hG.2.2.2.2.2.1
  obtain ⟨hd, hn⟩ := zb_idiv_ok ok
  subst hn
  unfold zo_idiv at K
  split at K
  · exact lv_idiv hx hb hd K.1 (K.2 p e R s m args below meth c H locs ls CX (zlm_kp _ hl) hR hL hsz h1 h2)
  · exact K.elim

def zb_irem (cc : ByteArray) (pc len r1 r2 r3 : Nat) (ts : List Nat) : Bool := match decode cc pc with
  | .ok (.irem, n) => decide (n = 1 ∧ len = 1)
  | _ => false
theorem zb_irem_ok {cc : ByteArray} {pc len r1 r2 r3 : Nat} {ts : List Nat} (h : zb_irem cc pc len r1 r2 r3 ts = true) : decode cc pc = .ok (.irem, 1) ∧ len = 1 := by
  unfold zb_irem at h
  split at h
  · rename_i n e
    obtain ⟨h1, h2⟩ := of_decide_eq_true h
    rw [h1] at e
    exact ⟨e, h2⟩
  · cases h
theorem zx_irem {G : zG} {l : Launch} {d : Nat} {y : zY} {E : Nat → List Value → zH → (zR → zH → Prop) → Prop} {M : zM} {Q : zR → zH → Prop} {h0 : zH} {pc len r1 r2 r3 : Nat} {ts : List Nat} {lv : List (Nat × Value)} {st : List Value} {h : zH} (ok : zb_irem y.cc pc len r1 r2 r3 ts = true) (K : zo_irem E M Q (zP G l d y Q h0) pc len r1 r2 r3 ts lv st h) : zP G l d y Q h0 (pc, lv, st, h) := by
  intro p e R s m args below meth c H locs ls CX hl hR hL hsz h1 h2
  obtain ⟨hx, hb, hr, hlk, hml, hown, hts, hnm, hG, hR0, hRm, hex⟩ := id CX
  have hvc : G.vS.category = 1 := hG.2.2.2.2.2.1
  obtain ⟨hd, hn⟩ := zb_irem_ok ok
  subst hn
  unfold zo_irem at K
  split at K
  · exact lv_irem hx hb hd K.1 (K.2 p e R s m args below meth c H locs ls CX (zlm_kp _ hl) hR hL hsz h1 h2)
  · exact K.elim

def zb_lcmp (cc : ByteArray) (pc len r1 r2 r3 : Nat) (ts : List Nat) : Bool := match decode cc pc with
  | .ok (.lcmp, n) => decide (n = 1 ∧ len = 1)
  | _ => false
theorem zb_lcmp_ok {cc : ByteArray} {pc len r1 r2 r3 : Nat} {ts : List Nat} (h : zb_lcmp cc pc len r1 r2 r3 ts = true) : decode cc pc = .ok (.lcmp, 1) ∧ len = 1 := by
  unfold zb_lcmp at h
  split at h
  · rename_i n e
    obtain ⟨h1, h2⟩ := of_decide_eq_true h
    rw [h1] at e
    exact ⟨e, h2⟩
  · cases h
theorem zx_lcmp {G : zG} {l : Launch} {d : Nat} {y : zY} {E : Nat → List Value → zH → (zR → zH → Prop) → Prop} {M : zM} {Q : zR → zH → Prop} {h0 : zH} {pc len r1 r2 r3 : Nat} {ts : List Nat} {lv : List (Nat × Value)} {st : List Value} {h : zH} (ok : zb_lcmp y.cc pc len r1 r2 r3 ts = true) (K : zo_lcmp E M Q (zP G l d y Q h0) pc len r1 r2 r3 ts lv st h) : zP G l d y Q h0 (pc, lv, st, h) := by
  intro p e R s m args below meth c H locs ls CX hl hR hL hsz h1 h2
  obtain ⟨hx, hb, hr, hlk, hml, hown, hts, hnm, hG, hR0, hRm, hex⟩ := id CX
  have hvc : G.vS.category = 1 := hG.2.2.2.2.2.1
  obtain ⟨hd, hn⟩ := zb_lcmp_ok ok
  subst hn
  unfold zo_lcmp at K
  split at K
  · exact W.lcmp hx hb hd (K p e R s m args below meth c H locs ls CX (zlm_kp _ hl) hR hL hsz h1 h2)
  · exact K.elim

def zb_dup (cc : ByteArray) (pc len r1 r2 r3 : Nat) (ts : List Nat) : Bool := match decode cc pc with
  | .ok (.dup, n) => decide (n = 1 ∧ len = 1)
  | _ => false
theorem zb_dup_ok {cc : ByteArray} {pc len r1 r2 r3 : Nat} {ts : List Nat} (h : zb_dup cc pc len r1 r2 r3 ts = true) : decode cc pc = .ok (.dup, 1) ∧ len = 1 := by
  unfold zb_dup at h
  split at h
  · rename_i n e
    obtain ⟨h1, h2⟩ := of_decide_eq_true h
    rw [h1] at e
    exact ⟨e, h2⟩
  · cases h
theorem zx_dup {G : zG} {l : Launch} {d : Nat} {y : zY} {E : Nat → List Value → zH → (zR → zH → Prop) → Prop} {M : zM} {Q : zR → zH → Prop} {h0 : zH} {pc len r1 r2 r3 : Nat} {ts : List Nat} {lv : List (Nat × Value)} {st : List Value} {h : zH} (ok : zb_dup y.cc pc len r1 r2 r3 ts = true) (K : zo_dup E M Q (zP G l d y Q h0) pc len r1 r2 r3 ts lv st h) : zP G l d y Q h0 (pc, lv, st, h) := by
  intro p e R s m args below meth c H locs ls CX hl hR hL hsz h1 h2
  obtain ⟨hx, hb, hr, hlk, hml, hown, hts, hnm, hG, hR0, hRm, hex⟩ := id CX
  have hvc : G.vS.category = 1 := hG.2.2.2.2.2.1
  obtain ⟨hd, hn⟩ := zb_dup_ok ok
  subst hn
  unfold zo_dup at K
  split at K
  · exact lv_dup hx hb hd (zc2_cat hvc K.1) (K.2 p e R s m args below meth c H locs ls CX (zlm_kp _ hl) hR hL hsz h1 h2)
  · exact K.elim

def zb_pop (cc : ByteArray) (pc len r1 r2 r3 : Nat) (ts : List Nat) : Bool := match decode cc pc with
  | .ok (.pop, n) => decide (n = 1 ∧ len = 1)
  | _ => false
theorem zb_pop_ok {cc : ByteArray} {pc len r1 r2 r3 : Nat} {ts : List Nat} (h : zb_pop cc pc len r1 r2 r3 ts = true) : decode cc pc = .ok (.pop, 1) ∧ len = 1 := by
  unfold zb_pop at h
  split at h
  · rename_i n e
    obtain ⟨h1, h2⟩ := of_decide_eq_true h
    rw [h1] at e
    exact ⟨e, h2⟩
  · cases h
theorem zx_pop {G : zG} {l : Launch} {d : Nat} {y : zY} {E : Nat → List Value → zH → (zR → zH → Prop) → Prop} {M : zM} {Q : zR → zH → Prop} {h0 : zH} {pc len r1 r2 r3 : Nat} {ts : List Nat} {lv : List (Nat × Value)} {st : List Value} {h : zH} (ok : zb_pop y.cc pc len r1 r2 r3 ts = true) (K : zo_pop E M Q (zP G l d y Q h0) pc len r1 r2 r3 ts lv st h) : zP G l d y Q h0 (pc, lv, st, h) := by
  intro p e R s m args below meth c H locs ls CX hl hR hL hsz h1 h2
  obtain ⟨hx, hb, hr, hlk, hml, hown, hts, hnm, hG, hR0, hRm, hex⟩ := id CX
  have hvc : G.vS.category = 1 := hG.2.2.2.2.2.1
  obtain ⟨hd, hn⟩ := zb_pop_ok ok
  subst hn
  unfold zo_pop at K
  split at K
  · exact lv_pop hx hb hd (zc2_cat hvc K.1) (K.2 p e R s m args below meth c H locs ls CX (zlm_kp _ hl) hR hL hsz h1 h2)
  · exact K.elim

def zb_dup2 (cc : ByteArray) (pc len r1 r2 r3 : Nat) (ts : List Nat) : Bool := match decode cc pc with
  | .ok (.dup2, n) => decide (n = 1 ∧ len = 1)
  | _ => false
theorem zb_dup2_ok {cc : ByteArray} {pc len r1 r2 r3 : Nat} {ts : List Nat} (h : zb_dup2 cc pc len r1 r2 r3 ts = true) : decode cc pc = .ok (.dup2, 1) ∧ len = 1 := by
  unfold zb_dup2 at h
  split at h
  · rename_i n e
    obtain ⟨h1, h2⟩ := of_decide_eq_true h
    rw [h1] at e
    exact ⟨e, h2⟩
  · cases h
theorem zx_dup2 {G : zG} {l : Launch} {d : Nat} {y : zY} {E : Nat → List Value → zH → (zR → zH → Prop) → Prop} {M : zM} {Q : zR → zH → Prop} {h0 : zH} {pc len r1 r2 r3 : Nat} {ts : List Nat} {lv : List (Nat × Value)} {st : List Value} {h : zH} (ok : zb_dup2 y.cc pc len r1 r2 r3 ts = true) (K : zo_dup2 E M Q (zP G l d y Q h0) pc len r1 r2 r3 ts lv st h) : zP G l d y Q h0 (pc, lv, st, h) := by
  intro p e R s m args below meth c H locs ls CX hl hR hL hsz h1 h2
  obtain ⟨hx, hb, hr, hlk, hml, hown, hts, hnm, hG, hR0, hRm, hex⟩ := id CX
  have hvc : G.vS.category = 1 := hG.2.2.2.2.2.1
  obtain ⟨hd, hn⟩ := zb_dup2_ok ok
  subst hn
  unfold zo_dup2 at K
  split at K
  · exact lv_dup2_11 hx hb hd (zc2_cat hvc K.1) (zc2_cat hvc K.2.1) (K.2.2 p e R s m args below meth c H locs ls CX (zlm_kp _ hl) hR hL hsz h1 h2)
  · exact K.elim

theorem zof_ipush (r2 : Nat) : Int32.ofInt ((r2 : Int)) = Int32.ofNat r2 := by rfl
def zb_ipush (own : String) (cc : ByteArray) (pc len r1 r2 r3 : Nat) (ts : List Nat) : Bool := match decode cc pc with
  | .ok (.iconst k, n) => decide (n = 1 ∧ len = 1 ∧ k = (r2 : Int) ∧ True)
  | .ok (.bipush k, n) => decide (n = 2 ∧ len = 2 ∧ k = (r2 : Int) ∧ (Int8.ofInt ((r2 : Int))).toInt32 = Int32.ofNat r2)
  | .ok (.sipush k, n) => decide (n = 3 ∧ len = 3 ∧ k = (r2 : Int) ∧ (Int16.ofInt ((r2 : Int))).toInt32 = Int32.ofNat r2)
  | .ok (.ldc k, n) => decide (n = 2 ∧ len = 2 ∧ zisc own k (Int32.ofNat r2) = true)
  | .ok (.ldc_w k, n) => decide (n = 3 ∧ len = 3 ∧ zisc own k (Int32.ofNat r2) = true)
  | .ok (.getstatic k, n) => decide (n = 3 ∧ len = 3 ∧ r2 = 1 ∧ zisg own k "java/lang/String" "COMPACT_STRINGS" "Z" = true)
  | _ => false
theorem zx_ipush {G : zG} {l : Launch} {d : Nat} {y : zY} {E : Nat → List Value → zH → (zR → zH → Prop) → Prop} {M : zM} {Q : zR → zH → Prop} {h0 : zH} {pc len r1 r2 r3 : Nat} {ts : List Nat} {lv : List (Nat × Value)} {st : List Value} {h : zH} (ok : zb_ipush y.nm.cls y.cc pc len r1 r2 r3 ts = true) (K : zo_ipush E M Q (zP G l d y Q h0) pc len r1 r2 r3 ts lv st h) : zP G l d y Q h0 (pc, lv, st, h) := by
  intro p e R s m args below meth c H locs ls CX hl hR hL hsz h1 h2
  obtain ⟨hx, hb, hr, hlk, hml, hown, hts, hnm, hG, hR0, hRm, hex⟩ := id CX
  have hvc : G.vS.category = 1 := hG.2.2.2.2.2.1
  unfold zb_ipush at ok
  unfold zo_ipush at K
  split at ok
  · rename_i k n e1
    obtain ⟨q1, q2, q3, q4⟩ := of_decide_eq_true ok
    subst q1
    subst q2
    rw [q3] at e1
    exact lv_iconst hx hb e1 (zof_ipush r2) (K p e R s m args below meth c H locs ls CX (zlm_kp _ hl) hR hL hsz h1 h2)
  · rename_i k n e1
    obtain ⟨q1, q2, q3, q4⟩ := of_decide_eq_true ok
    subst q1
    subst q2
    rw [q3] at e1
    exact lv_bipush hx hb e1 q4 (K p e R s m args below meth c H locs ls CX (zlm_kp _ hl) hR hL hsz h1 h2)
  · rename_i k n e1
    obtain ⟨q1, q2, q3, q4⟩ := of_decide_eq_true ok
    subst q1
    subst q2
    rw [q3] at e1
    exact lv_sipush hx hb e1 q4 (K p e R s m args below meth c H locs ls CX (zlm_kp _ hl) hR hL hsz h1 h2)
  · rename_i k n e1
    obtain ⟨q1, q2, q3⟩ := of_decide_eq_true ok
    subst q1
    subst q2
    exact lv_ldc hx hb hown (hts _ (zisc_ok q3)) e1 (K p e R s m args below meth c H locs ls CX (zlm_kp _ hl) hR hL hsz h1 h2)
  · rename_i k n e1
    obtain ⟨q1, q2, q3⟩ := of_decide_eq_true ok
    subst q1
    subst q2
    exact lv_ldcw hx hb hown (hts _ (zisc_ok q3)) e1 (K p e R s m args below meth c H locs ls CX (zlm_kp _ hl) hR hL hsz h1 h2)
  · rename_i k n e1
    obtain ⟨q1, q2, q3, q4⟩ := of_decide_eq_true ok
    subst q1
    subst q2
    subst q3
    exact va_gets hx hb (hG.2.2.2.1.kept (fun a ha hA => hR0.below (by rw [hG.2.1] at ha; exact ha))) (hR0.S hR hsz hL) hown (hts _ (zisg_ok q4)) (fun x h => h) e1 (K p e R s m args below meth c H locs ls CX (zlm_kp _ hl) hR hL hsz h1 h2)
  · cases ok

theorem zof_ipushn (r2 : Nat) : Int32.ofInt (-(r2 : Int)) = -(Int32.ofNat r2) := by rw [Int32.ofInt_neg]; rfl
def zb_ipushn (own : String) (cc : ByteArray) (pc len r1 r2 r3 : Nat) (ts : List Nat) : Bool := match decode cc pc with
  | .ok (.iconst k, n) => decide (n = 1 ∧ len = 1 ∧ k = -(r2 : Int) ∧ True)
  | .ok (.bipush k, n) => decide (n = 2 ∧ len = 2 ∧ k = -(r2 : Int) ∧ (Int8.ofInt (-(r2 : Int))).toInt32 = -(Int32.ofNat r2))
  | .ok (.sipush k, n) => decide (n = 3 ∧ len = 3 ∧ k = -(r2 : Int) ∧ (Int16.ofInt (-(r2 : Int))).toInt32 = -(Int32.ofNat r2))
  | .ok (.ldc k, n) => decide (n = 2 ∧ len = 2 ∧ zisc own k (-(Int32.ofNat r2)) = true)
  | .ok (.ldc_w k, n) => decide (n = 3 ∧ len = 3 ∧ zisc own k (-(Int32.ofNat r2)) = true)
  | _ => false
theorem zx_ipushn {G : zG} {l : Launch} {d : Nat} {y : zY} {E : Nat → List Value → zH → (zR → zH → Prop) → Prop} {M : zM} {Q : zR → zH → Prop} {h0 : zH} {pc len r1 r2 r3 : Nat} {ts : List Nat} {lv : List (Nat × Value)} {st : List Value} {h : zH} (ok : zb_ipushn y.nm.cls y.cc pc len r1 r2 r3 ts = true) (K : zo_ipushn E M Q (zP G l d y Q h0) pc len r1 r2 r3 ts lv st h) : zP G l d y Q h0 (pc, lv, st, h) := by
  intro p e R s m args below meth c H locs ls CX hl hR hL hsz h1 h2
  obtain ⟨hx, hb, hr, hlk, hml, hown, hts, hnm, hG, hR0, hRm, hex⟩ := id CX
  have hvc : G.vS.category = 1 := hG.2.2.2.2.2.1
  unfold zb_ipushn at ok
  unfold zo_ipushn at K
  split at ok
  · rename_i k n e1
    obtain ⟨q1, q2, q3, q4⟩ := of_decide_eq_true ok
    subst q1
    subst q2
    rw [q3] at e1
    exact lv_iconst hx hb e1 (zof_ipushn r2) (K p e R s m args below meth c H locs ls CX (zlm_kp _ hl) hR hL hsz h1 h2)
  · rename_i k n e1
    obtain ⟨q1, q2, q3, q4⟩ := of_decide_eq_true ok
    subst q1
    subst q2
    rw [q3] at e1
    exact lv_bipush hx hb e1 q4 (K p e R s m args below meth c H locs ls CX (zlm_kp _ hl) hR hL hsz h1 h2)
  · rename_i k n e1
    obtain ⟨q1, q2, q3, q4⟩ := of_decide_eq_true ok
    subst q1
    subst q2
    rw [q3] at e1
    exact lv_sipush hx hb e1 q4 (K p e R s m args below meth c H locs ls CX (zlm_kp _ hl) hR hL hsz h1 h2)
  · rename_i k n e1
    obtain ⟨q1, q2, q3⟩ := of_decide_eq_true ok
    subst q1
    subst q2
    exact lv_ldc hx hb hown (hts _ (zisc_ok q3)) e1 (K p e R s m args below meth c H locs ls CX (zlm_kp _ hl) hR hL hsz h1 h2)
  · rename_i k n e1
    obtain ⟨q1, q2, q3⟩ := of_decide_eq_true ok
    subst q1
    subst q2
    exact lv_ldcw hx hb hown (hts _ (zisc_ok q3)) e1 (K p e R s m args below meth c H locs ls CX (zlm_kp _ hl) hR hL hsz h1 h2)
  · cases ok

def zb_lpush (own : String) (cc : ByteArray) (pc len r1 r2 r3 : Nat) (ts : List Nat) : Bool := match decode cc pc with
  | .ok (.lconst k, n) => decide (n = 1 ∧ len = 1 ∧ (k : Nat) = r2)
  | .ok (.ldc2_w k, n) => decide (n = 3 ∧ len = 3 ∧ zisj own k (Int64.ofNat r2) = true)
  | _ => false
theorem zx_lpush {G : zG} {l : Launch} {d : Nat} {y : zY} {E : Nat → List Value → zH → (zR → zH → Prop) → Prop} {M : zM} {Q : zR → zH → Prop} {h0 : zH} {pc len r1 r2 r3 : Nat} {ts : List Nat} {lv : List (Nat × Value)} {st : List Value} {h : zH} (ok : zb_lpush y.nm.cls y.cc pc len r1 r2 r3 ts = true) (K : zo_lpush E M Q (zP G l d y Q h0) pc len r1 r2 r3 ts lv st h) : zP G l d y Q h0 (pc, lv, st, h) := by
  intro p e R s m args below meth c H locs ls CX hl hR hL hsz h1 h2
  obtain ⟨hx, hb, hr, hlk, hml, hown, hts, hnm, hG, hR0, hRm, hex⟩ := id CX
  have hvc : G.vS.category = 1 := hG.2.2.2.2.2.1
  unfold zb_lpush at ok
  unfold zo_lpush at K
  split at ok
  · rename_i k n e1
    obtain ⟨q1, q2, q3⟩ := of_decide_eq_true ok
    subst q1
    subst q2
    exact lv_lconst hx hb e1 (by rw [q3]) (K p e R s m args below meth c H locs ls CX (zlm_kp _ hl) hR hL hsz h1 h2)
  · rename_i k n e1
    obtain ⟨q1, q2, q3⟩ := of_decide_eq_true ok
    subst q1
    subst q2
    exact lv_ldc2 hx hb hown (hts _ (zisj_ok q3)) e1 (K p e R s m args below meth c H locs ls CX (zlm_kp _ hl) hR hL hsz h1 h2)
  · cases ok

def zb_lpushn (own : String) (cc : ByteArray) (pc len r1 r2 r3 : Nat) (ts : List Nat) : Bool := match decode cc pc with
  | .ok (.ldc2_w k, n) => decide (n = 3 ∧ len = 3 ∧ zisj own k (-(Int64.ofNat r2)) = true)
  | _ => false
theorem zx_lpushn {G : zG} {l : Launch} {d : Nat} {y : zY} {E : Nat → List Value → zH → (zR → zH → Prop) → Prop} {M : zM} {Q : zR → zH → Prop} {h0 : zH} {pc len r1 r2 r3 : Nat} {ts : List Nat} {lv : List (Nat × Value)} {st : List Value} {h : zH} (ok : zb_lpushn y.nm.cls y.cc pc len r1 r2 r3 ts = true) (K : zo_lpushn E M Q (zP G l d y Q h0) pc len r1 r2 r3 ts lv st h) : zP G l d y Q h0 (pc, lv, st, h) := by
  intro p e R s m args below meth c H locs ls CX hl hR hL hsz h1 h2
  obtain ⟨hx, hb, hr, hlk, hml, hown, hts, hnm, hG, hR0, hRm, hex⟩ := id CX
  have hvc : G.vS.category = 1 := hG.2.2.2.2.2.1
  unfold zb_lpushn at ok
  unfold zo_lpushn at K
  split at ok
  · rename_i k n e1
    obtain ⟨q1, q2, q3⟩ := of_decide_eq_true ok
    subst q1
    subst q2
    exact lv_ldc2 hx hb hown (hts _ (zisj_ok q3)) e1 (K p e R s m args below meth c H locs ls CX (zlm_kp _ hl) hR hL hsz h1 h2)
  · cases ok

theorem zldcSW {p : Program} {l : Launch} {e : Env} {R : Room} {s : State} {m : MethodId} {args : Array Value} {below : List Frame} {meth : Method} {c : Code} {H : Heap} {locs : List Loc} {cells slots : Nat} {Q : State → Prop} {cc : ByteArray} {pc : Nat} {ls : Array Slot} {rest : List Value} (hexec : p.tables.exec = Jvm.exec) (hb : c.code = cc) {own tx : String} {index q : Nat} (hown : s.vm.findClass own = some m.cls) (hZ : vk_R own index tx q s) (hdg : decode cc pc = .ok (.ldc_w index, 3))
    (k : W p l e R s m args below meth c H locs cells slots Q (F0 m (pc + 3) ls (.ref q :: rest))) : W p l e R s m args below meth c H locs cells slots Q (F0 m pc ls rest) := by
  intro T hT X
  obtain ⟨t, a1, b1⟩ := k T hT X
  exact ⟨t, X.ldcStringW hexec hown (text := tx) (a := q) hZ.1 hZ.2 (g := F0 m pc ls rest) rfl (by rw [hb]; exact hdg) t a1, b1⟩
def zb_rpush (own : String) (cc : ByteArray) (pc len r1 r2 r3 : Nat) (ts : List Nat) : Bool := match decode cc pc with
  | .ok (.ldc k, n) => decide (n = 2 ∧ len = 2 ∧ zist own k r2 = true)
  | .ok (.ldc_w k, n) => decide (n = 3 ∧ len = 3 ∧ zist own k r2 = true)
  | _ => false
theorem zx_rpush {G : zG} {l : Launch} {d : Nat} {y : zY} {E : Nat → List Value → zH → (zR → zH → Prop) → Prop} {M : zM} {Q : zR → zH → Prop} {h0 : zH} {pc len r1 r2 r3 : Nat} {ts : List Nat} {lv : List (Nat × Value)} {st : List Value} {h : zH} (ok : zb_rpush y.nm.cls y.cc pc len r1 r2 r3 ts = true) (K : zo_rpush E M Q (zP G l d y Q h0) pc len r1 r2 r3 ts lv st h) : zP G l d y Q h0 (pc, lv, st, h) := by
  intro p e R s m args below meth c H locs ls CX hl hR hL hsz h1 h2
  obtain ⟨hx, hb, hr, hlk, hml, hown, hts, hnm, hG, hR0, hRm, hex⟩ := id CX
  have hvc : G.vS.category = 1 := hG.2.2.2.2.2.1
  unfold zb_rpush at ok
  unfold zo_rpush at K
  split at ok
  · rename_i k n e1
    obtain ⟨q1, q2, q3⟩ := of_decide_eq_true ok
    subst q1
    subst q2
    obtain ⟨tx, q4, q5⟩ := zist_ok q3
    have hZ := hG.2.2.2.2.2.2.2.2.2.2.2.2.1 _ q4
    have hz : zad G r2 = G.ra r2 := by unfold zad; rw [if_pos q5]
    have K9 := K p e R s m args below meth c H locs ls CX (zlm_kp _ hl) hR hL hsz h1 h2
    refine va_ldcS hx hb hown hZ e1 ?_
    rw [← hz]
    exact K9
  · rename_i k n e1
    obtain ⟨q1, q2, q3⟩ := of_decide_eq_true ok
    subst q1
    subst q2
    obtain ⟨tx, q4, q5⟩ := zist_ok q3
    have hZ := hG.2.2.2.2.2.2.2.2.2.2.2.2.1 _ q4
    have hz : zad G r2 = G.ra r2 := by unfold zad; rw [if_pos q5]
    have K9 := K p e R s m args below meth c H locs ls CX (zlm_kp _ hl) hR hL hsz h1 h2
    refine zldcSW hx hb hown hZ e1 ?_
    rw [← hz]
    exact K9
  · cases ok

def zb_opush (own : String) (cc : ByteArray) (pc len r1 r2 r3 : Nat) (ts : List Nat) : Bool := match decode cc pc with
  | .ok (.getstatic k, n) => decide (n = 3 ∧ len = 3 ∧ zisg own k "jdk/internal/util/Preconditions" "SIOOBE_FORMATTER" "Ljava/util/function/BiFunction;" = true)
  | _ => false
theorem zx_opush {G : zG} {l : Launch} {d : Nat} {y : zY} {E : Nat → List Value → zH → (zR → zH → Prop) → Prop} {M : zM} {Q : zR → zH → Prop} {h0 : zH} {pc len r1 r2 r3 : Nat} {ts : List Nat} {lv : List (Nat × Value)} {st : List Value} {h : zH} (ok : zb_opush y.nm.cls y.cc pc len r1 r2 r3 ts = true) (K : zo_opush E M Q (zP G l d y Q h0) pc len r1 r2 r3 ts lv st h) : zP G l d y Q h0 (pc, lv, st, h) := by
  intro p e R s m args below meth c H locs ls CX hl hR hL hsz h1 h2
  obtain ⟨hx, hb, hr, hlk, hml, hown, hts, hnm, hG, hR0, hRm, hex⟩ := id CX
  have hvc : G.vS.category = 1 := hG.2.2.2.2.2.1
  unfold zb_opush at ok
  unfold zo_opush at K
  split at ok
  · rename_i k n e1
    obtain ⟨q1, q2, q4⟩ := of_decide_eq_true ok
    subst q1
    subst q2
    exact va_gets hx hb (hG.2.2.2.2.1.kept (fun a ha hA => hR0.below (by rw [hG.2.1] at ha; exact ha))) (hR0.S hR hsz hL) hown (hts _ (zisg_ok q4)) (fun x h => h) e1 (K p e R s m args below meth c H locs ls CX (zlm_kp _ hl) hR hL hsz h1 h2)
  · cases ok

def zb_iload (cc : ByteArray) (pc len r1 r2 r3 : Nat) (ts : List Nat) : Bool := match decode cc pc with
  | .ok (.iload k, n) => decide (n = 2 ∧ len = 2 ∧ k = r1)
  | .ok (.iload_n k, n) => decide (n = 1 ∧ len = 1 ∧ (k : Nat) = r1)
  | _ => false
theorem zx_iload {G : zG} {l : Launch} {d : Nat} {y : zY} {E : Nat → List Value → zH → (zR → zH → Prop) → Prop} {M : zM} {Q : zR → zH → Prop} {h0 : zH} {pc len r1 r2 r3 : Nat} {ts : List Nat} {lv : List (Nat × Value)} {st : List Value} {h : zH} (ok : zb_iload y.cc pc len r1 r2 r3 ts = true) (K : zo_iload E M Q (zP G l d y Q h0) pc len r1 r2 r3 ts lv st h) : zP G l d y Q h0 (pc, lv, st, h) := by
  intro p e R s m args below meth c H locs ls CX hl hR hL hsz h1 h2
  obtain ⟨hx, hb, hr, hlk, hml, hown, hts, hnm, hG, hR0, hRm, hex⟩ := id CX
  have hvc : G.vS.category = 1 := hG.2.2.2.2.2.1
  unfold zb_iload at ok
  unfold zo_iload at K
  split at K
  · rename_i x q
    have hv := zlm_at hl q
    split at ok
    · rename_i k n e1
      obtain ⟨q1, q2, q3⟩ := of_decide_eq_true ok
      subst q1
      subst q2
      subst q3
      exact lv_iload hx hb e1 hv (K p e R s m args below meth c H locs ls CX (zlm_kp _ hl) hR hL hsz h1 h2)
    · rename_i k n e1
      obtain ⟨q1, q2, q3⟩ := of_decide_eq_true ok
      subst q1
      subst q2
      exact lv_iload_n hx hb e1 q3 hv (K p e R s m args below meth c H locs ls CX (zlm_kp _ hl) hR hL hsz h1 h2)
    · cases ok
  · exact K.elim

def zb_lload (cc : ByteArray) (pc len r1 r2 r3 : Nat) (ts : List Nat) : Bool := match decode cc pc with
  | .ok (.lload k, n) => decide (n = 2 ∧ len = 2 ∧ k = r1)
  | .ok (.lload_n k, n) => decide (n = 1 ∧ len = 1 ∧ (k : Nat) = r1)
  | _ => false
theorem zx_lload {G : zG} {l : Launch} {d : Nat} {y : zY} {E : Nat → List Value → zH → (zR → zH → Prop) → Prop} {M : zM} {Q : zR → zH → Prop} {h0 : zH} {pc len r1 r2 r3 : Nat} {ts : List Nat} {lv : List (Nat × Value)} {st : List Value} {h : zH} (ok : zb_lload y.cc pc len r1 r2 r3 ts = true) (K : zo_lload E M Q (zP G l d y Q h0) pc len r1 r2 r3 ts lv st h) : zP G l d y Q h0 (pc, lv, st, h) := by
  intro p e R s m args below meth c H locs ls CX hl hR hL hsz h1 h2
  obtain ⟨hx, hb, hr, hlk, hml, hown, hts, hnm, hG, hR0, hRm, hex⟩ := id CX
  have hvc : G.vS.category = 1 := hG.2.2.2.2.2.1
  unfold zb_lload at ok
  unfold zo_lload at K
  split at K
  · rename_i x q
    have hv := zlm_at hl q
    split at ok
    · rename_i k n e1
      obtain ⟨q1, q2, q3⟩ := of_decide_eq_true ok
      subst q1
      subst q2
      subst q3
      exact lv_lload hx hb e1 hv (K p e R s m args below meth c H locs ls CX (zlm_kp _ hl) hR hL hsz h1 h2)
    · rename_i k n e1
      obtain ⟨q1, q2, q3⟩ := of_decide_eq_true ok
      subst q1
      subst q2
      exact lv_lload_n hx hb e1 q3 hv (K p e R s m args below meth c H locs ls CX (zlm_kp _ hl) hR hL hsz h1 h2)
    · cases ok
  · exact K.elim

def zb_aload (cc : ByteArray) (pc len r1 r2 r3 : Nat) (ts : List Nat) : Bool := match decode cc pc with
  | .ok (.aload k, n) => decide (n = 2 ∧ len = 2 ∧ k = r1)
  | .ok (.aload_n k, n) => decide (n = 1 ∧ len = 1 ∧ (k : Nat) = r1)
  | _ => false
theorem zx_aload {G : zG} {l : Launch} {d : Nat} {y : zY} {E : Nat → List Value → zH → (zR → zH → Prop) → Prop} {M : zM} {Q : zR → zH → Prop} {h0 : zH} {pc len r1 r2 r3 : Nat} {ts : List Nat} {lv : List (Nat × Value)} {st : List Value} {h : zH} (ok : zb_aload y.cc pc len r1 r2 r3 ts = true) (K : zo_aload E M Q (zP G l d y Q h0) pc len r1 r2 r3 ts lv st h) : zP G l d y Q h0 (pc, lv, st, h) := by
  intro p e R s m args below meth c H locs ls CX hl hR hL hsz h1 h2
  obtain ⟨hx, hb, hr, hlk, hml, hown, hts, hnm, hG, hR0, hRm, hex⟩ := id CX
  have hvc : G.vS.category = 1 := hG.2.2.2.2.2.1
  unfold zb_aload at ok
  unfold zo_aload at K
  split at K
  · rename_i x q
    have hv := zlm_at hl q
    split at ok
    · rename_i k n e1
      obtain ⟨q1, q2, q3⟩ := of_decide_eq_true ok
      subst q1
      subst q2
      subst q3
      exact lv_aload hx hb e1 hv (K p e R s m args below meth c H locs ls CX (zlm_kp _ hl) hR hL hsz h1 h2)
    · rename_i k n e1
      obtain ⟨q1, q2, q3⟩ := of_decide_eq_true ok
      subst q1
      subst q2
      exact lv_aload_n hx hb e1 q3 hv (K p e R s m args below meth c H locs ls CX (zlm_kp _ hl) hR hL hsz h1 h2)
    · cases ok
  · exact K.elim

def zb_istore (nL : Nat) (cc : ByteArray) (pc len r1 r2 r3 : Nat) (ts : List Nat) : Bool := match decode cc pc with
  | .ok (.istore k, n) => decide (n = 2 ∧ len = 2 ∧ k = r1 ∧ r1 < nL)
  | .ok (.istore_n k, n) => decide (n = 1 ∧ len = 1 ∧ (k : Nat) = r1 ∧ r1 < nL)
  | _ => false
theorem zx_istore {G : zG} {l : Launch} {d : Nat} {y : zY} {E : Nat → List Value → zH → (zR → zH → Prop) → Prop} {M : zM} {Q : zR → zH → Prop} {h0 : zH} {pc len r1 r2 r3 : Nat} {ts : List Nat} {lv : List (Nat × Value)} {st : List Value} {h : zH} (ok : zb_istore y.nL y.cc pc len r1 r2 r3 ts = true) (K : zo_istore E M Q (zP G l d y Q h0) pc len r1 r2 r3 ts lv st h) : zP G l d y Q h0 (pc, lv, st, h) := by
  intro p e R s m args below meth c H locs ls CX hl hR hL hsz h1 h2
  obtain ⟨hx, hb, hr, hlk, hml, hown, hts, hnm, hG, hR0, hRm, hex⟩ := id CX
  have hvc : G.vS.category = 1 := hG.2.2.2.2.2.1
  unfold zb_istore at ok
  unfold zo_istore at K
  split at K
  · split at ok
    · rename_i k n e1
      obtain ⟨q1, q2, q3, q4⟩ := of_decide_eq_true ok
      subst q1
      subst q2
      subst q3
      exact lv_istore hx hb e1 hl q4 rfl (fun ls9 hl9 => K p e R s m args below meth c H locs ls9 CX (zlm_kp _ (zlm_st hvc hl9)) hR hL hsz h1 h2)
    · rename_i k n e1
      obtain ⟨q1, q2, q3, q4⟩ := of_decide_eq_true ok
      subst q1
      subst q2
      exact lv_istore_n hx hb e1 q3 hl q4 rfl (fun ls9 hl9 => K p e R s m args below meth c H locs ls9 CX (zlm_kp _ (zlm_st hvc hl9)) hR hL hsz h1 h2)
    · cases ok
  · exact K.elim

def zb_astore (nL : Nat) (cc : ByteArray) (pc len r1 r2 r3 : Nat) (ts : List Nat) : Bool := match decode cc pc with
  | .ok (.astore k, n) => decide (n = 2 ∧ len = 2 ∧ k = r1 ∧ r1 < nL)
  | .ok (.astore_n k, n) => decide (n = 1 ∧ len = 1 ∧ (k : Nat) = r1 ∧ r1 < nL)
  | _ => false
theorem zx_astore {G : zG} {l : Launch} {d : Nat} {y : zY} {E : Nat → List Value → zH → (zR → zH → Prop) → Prop} {M : zM} {Q : zR → zH → Prop} {h0 : zH} {pc len r1 r2 r3 : Nat} {ts : List Nat} {lv : List (Nat × Value)} {st : List Value} {h : zH} (ok : zb_astore y.nL y.cc pc len r1 r2 r3 ts = true) (K : zo_astore E M Q (zP G l d y Q h0) pc len r1 r2 r3 ts lv st h) : zP G l d y Q h0 (pc, lv, st, h) := by
  intro p e R s m args below meth c H locs ls CX hl hR hL hsz h1 h2
  obtain ⟨hx, hb, hr, hlk, hml, hown, hts, hnm, hG, hR0, hRm, hex⟩ := id CX
  have hvc : G.vS.category = 1 := hG.2.2.2.2.2.1
  unfold zb_astore at ok
  unfold zo_astore at K
  split at K
  · split at ok
    · rename_i k n e1
      obtain ⟨q1, q2, q3, q4⟩ := of_decide_eq_true ok
      subst q1
      subst q2
      subst q3
      exact lv_astore hx hb e1 hl q4 rfl (fun ls9 hl9 => K p e R s m args below meth c H locs ls9 CX (zlm_kp _ (zlm_st hvc hl9)) hR hL hsz h1 h2)
    · rename_i k n e1
      obtain ⟨q1, q2, q3, q4⟩ := of_decide_eq_true ok
      subst q1
      subst q2
      exact lv_astore_n hx hb e1 q3 hl q4 rfl (fun ls9 hl9 => K p e R s m args below meth c H locs ls9 CX (zlm_kp _ (zlm_st hvc hl9)) hR hL hsz h1 h2)
    · cases ok
  · exact K.elim

def zb_lstore (nL : Nat) (cc : ByteArray) (pc len r1 r2 r3 : Nat) (ts : List Nat) : Bool := match decode cc pc with
  | .ok (.lstore k, n) => decide (n = 2 ∧ len = 2 ∧ k = r1 ∧ r1 + 1 < nL)
  | .ok (.lstore_n k, n) => decide (n = 1 ∧ len = 1 ∧ (k : Nat) = r1 ∧ r1 + 1 < nL)
  | _ => false
theorem zx_lstore {G : zG} {l : Launch} {d : Nat} {y : zY} {E : Nat → List Value → zH → (zR → zH → Prop) → Prop} {M : zM} {Q : zR → zH → Prop} {h0 : zH} {pc len r1 r2 r3 : Nat} {ts : List Nat} {lv : List (Nat × Value)} {st : List Value} {h : zH} (ok : zb_lstore y.nL y.cc pc len r1 r2 r3 ts = true) (K : zo_lstore E M Q (zP G l d y Q h0) pc len r1 r2 r3 ts lv st h) : zP G l d y Q h0 (pc, lv, st, h) := by
  intro p e R s m args below meth c H locs ls CX hl hR hL hsz h1 h2
  obtain ⟨hx, hb, hr, hlk, hml, hown, hts, hnm, hG, hR0, hRm, hex⟩ := id CX
  have hvc : G.vS.category = 1 := hG.2.2.2.2.2.1
  unfold zb_lstore at ok
  unfold zo_lstore at K
  split at K
  · split at ok
    · rename_i k n e1
      obtain ⟨q1, q2, q3, q4⟩ := of_decide_eq_true ok
      subst q1
      subst q2
      subst q3
      exact lv_lstore hx hb e1 hl q4 rfl (fun ls9 hl9 => K p e R s m args below meth c H locs ls9 CX (zlm_kp _ (zlm_st2 hvc hl9)) hR hL hsz h1 h2)
    · rename_i k n e1
      obtain ⟨q1, q2, q3, q4⟩ := of_decide_eq_true ok
      subst q1
      subst q2
      exact lv_lstore_n hx hb e1 q3 hl q4 rfl (fun ls9 hl9 => K p e R s m args below meth c H locs ls9 CX (zlm_kp _ (zlm_st2 hvc hl9)) hR hL hsz h1 h2)
    · cases ok
  · exact K.elim

def zb_iinc (nL : Nat) (cc : ByteArray) (pc len r1 r2 r3 : Nat) (ts : List Nat) : Bool := match decode cc pc with
  | .ok (.iinc k j, n) => decide (n = 3 ∧ len = 3 ∧ k = r1 ∧ r1 < nL ∧ j = (r2 : Int))
  | _ => false
theorem zx_iinc {G : zG} {l : Launch} {d : Nat} {y : zY} {E : Nat → List Value → zH → (zR → zH → Prop) → Prop} {M : zM} {Q : zR → zH → Prop} {h0 : zH} {pc len r1 r2 r3 : Nat} {ts : List Nat} {lv : List (Nat × Value)} {st : List Value} {h : zH} (ok : zb_iinc y.nL y.cc pc len r1 r2 r3 ts = true) (K : zo_iinc E M Q (zP G l d y Q h0) pc len r1 r2 r3 ts lv st h) : zP G l d y Q h0 (pc, lv, st, h) := by
  intro p e R s m args below meth c H locs ls CX hl hR hL hsz h1 h2
  obtain ⟨hx, hb, hr, hlk, hml, hown, hts, hnm, hG, hR0, hRm, hex⟩ := id CX
  have hvc : G.vS.category = 1 := hG.2.2.2.2.2.1
  unfold zb_iinc at ok
  unfold zo_iinc at K
  split at K
  · rename_i x q
    split at ok
    · rename_i k j n e1
      obtain ⟨q1, q2, q3, q4, q5⟩ := of_decide_eq_true ok
      subst q1
      subst q2
      subst q3
      rw [q5] at e1
      obtain ⟨i9, hi9⟩ := List.getElem?_of_mem (show ((k, Value.int x) : Nat × Value) ∈ zlm G lv from List.mem_map.mpr ⟨(k, .int x), zlk_mem q, rfl⟩)
      exact lv_iinc hx hb e1 hl hi9 (by rw [zof_ipush]) q4 rfl (fun ls9 hl9 => K p e R s m args below meth c H locs ls9 CX (zlm_kp _ (zlm_st hvc hl9)) hR hL hsz h1 h2)
    · cases ok
  · exact K.elim

def zb_iincn (nL : Nat) (cc : ByteArray) (pc len r1 r2 r3 : Nat) (ts : List Nat) : Bool := match decode cc pc with
  | .ok (.iinc k j, n) => decide (n = 3 ∧ len = 3 ∧ k = r1 ∧ r1 < nL ∧ j = -(r2 : Int))
  | _ => false
theorem zx_iincn {G : zG} {l : Launch} {d : Nat} {y : zY} {E : Nat → List Value → zH → (zR → zH → Prop) → Prop} {M : zM} {Q : zR → zH → Prop} {h0 : zH} {pc len r1 r2 r3 : Nat} {ts : List Nat} {lv : List (Nat × Value)} {st : List Value} {h : zH} (ok : zb_iincn y.nL y.cc pc len r1 r2 r3 ts = true) (K : zo_iincn E M Q (zP G l d y Q h0) pc len r1 r2 r3 ts lv st h) : zP G l d y Q h0 (pc, lv, st, h) := by
  intro p e R s m args below meth c H locs ls CX hl hR hL hsz h1 h2
  obtain ⟨hx, hb, hr, hlk, hml, hown, hts, hnm, hG, hR0, hRm, hex⟩ := id CX
  have hvc : G.vS.category = 1 := hG.2.2.2.2.2.1
  unfold zb_iincn at ok
  unfold zo_iincn at K
  split at K
  · rename_i x q
    split at ok
    · rename_i k j n e1
      obtain ⟨q1, q2, q3, q4, q5⟩ := of_decide_eq_true ok
      subst q1
      subst q2
      subst q3
      rw [q5] at e1
      obtain ⟨i9, hi9⟩ := List.getElem?_of_mem (show ((k, Value.int x) : Nat × Value) ∈ zlm G lv from List.mem_map.mpr ⟨(k, .int x), zlk_mem q, rfl⟩)
      exact lv_iinc hx hb e1 hl hi9 (by rw [zof_ipushn]) q4 rfl (fun ls9 hl9 => K p e R s m args below meth c H locs ls9 CX (zlm_kp _ (zlm_st hvc hl9)) hR hL hsz h1 h2)
    · cases ok
  · exact K.elim

def zb_goto (cc : ByteArray) (pc len r1 r2 r3 : Nat) (ts : List Nat) : Bool := match decode cc pc with
  | .ok (.goto o, n) => decide (n = 3 ∧ len = 3 ∧ (pc : Int) + o = (r1 : Int))
  | _ => false
theorem zx_goto {G : zG} {l : Launch} {d : Nat} {y : zY} {E : Nat → List Value → zH → (zR → zH → Prop) → Prop} {M : zM} {Q : zR → zH → Prop} {h0 : zH} {pc len r1 r2 r3 : Nat} {ts : List Nat} {lv : List (Nat × Value)} {st : List Value} {h : zH} (ok : zb_goto y.cc pc len r1 r2 r3 ts = true) (K : zo_goto E M Q (zP G l d y Q h0) pc len r1 r2 r3 ts lv st h) : zP G l d y Q h0 (pc, lv, st, h) := by
  intro p e R s m args below meth c H locs ls CX hl hR hL hsz h1 h2
  obtain ⟨hx, hb, hr, hlk, hml, hown, hts, hnm, hG, hR0, hRm, hex⟩ := id CX
  have hvc : G.vS.category = 1 := hG.2.2.2.2.2.1
  unfold zb_goto at ok
  unfold zo_goto at K
  split at ok
  · rename_i o n e1
    obtain ⟨q1, q2, q3⟩ := of_decide_eq_true ok
    subst q1
    subst q2
    exact lv_goto hx hb e1 q3 (K p e R s m args below meth c H locs ls CX (zlm_kp _ hl) hR hL hsz h1 h2)
  · cases ok

def zb_ifeq (cc : ByteArray) (pc len r1 r2 r3 : Nat) (ts : List Nat) : Bool := match decode cc pc with
  | .ok (.ifCond .eq o, n) => decide (n = 3 ∧ len = 3 ∧ (pc : Int) + o = (r1 : Int))
  | _ => false
theorem zx_ifeq {G : zG} {l : Launch} {d : Nat} {y : zY} {E : Nat → List Value → zH → (zR → zH → Prop) → Prop} {M : zM} {Q : zR → zH → Prop} {h0 : zH} {pc len r1 r2 r3 : Nat} {ts : List Nat} {lv : List (Nat × Value)} {st : List Value} {h : zH} (ok : zb_ifeq y.cc pc len r1 r2 r3 ts = true) (K : zo_ifeq E M Q (zP G l d y Q h0) pc len r1 r2 r3 ts lv st h) : zP G l d y Q h0 (pc, lv, st, h) := by
  intro p e R s m args below meth c H locs ls CX hl hR hL hsz h1 h2
  obtain ⟨hx, hb, hr, hlk, hml, hown, hts, hnm, hG, hR0, hRm, hex⟩ := id CX
  have hvc : G.vS.category = 1 := hG.2.2.2.2.2.1
  unfold zb_ifeq at ok
  unfold zo_ifeq at K
  split at ok
  · rename_i o n e1
    obtain ⟨q1, q2, q3⟩ := of_decide_eq_true ok
    subst q1
    subst q2
    split at K
    · exact lv_if_eq hx hb e1 q3 (fun c9 => K.1 c9 p e R s m args below meth c H locs ls CX (zlm_kp _ hl) hR hL hsz h1 h2) (fun c9 => K.2 c9 p e R s m args below meth c H locs ls CX (zlm_kp _ hl) hR hL hsz h1 h2)
    · exact K.elim
  · cases ok

def zb_ifne (cc : ByteArray) (pc len r1 r2 r3 : Nat) (ts : List Nat) : Bool := match decode cc pc with
  | .ok (.ifCond .ne o, n) => decide (n = 3 ∧ len = 3 ∧ (pc : Int) + o = (r1 : Int))
  | _ => false
theorem zx_ifne {G : zG} {l : Launch} {d : Nat} {y : zY} {E : Nat → List Value → zH → (zR → zH → Prop) → Prop} {M : zM} {Q : zR → zH → Prop} {h0 : zH} {pc len r1 r2 r3 : Nat} {ts : List Nat} {lv : List (Nat × Value)} {st : List Value} {h : zH} (ok : zb_ifne y.cc pc len r1 r2 r3 ts = true) (K : zo_ifne E M Q (zP G l d y Q h0) pc len r1 r2 r3 ts lv st h) : zP G l d y Q h0 (pc, lv, st, h) := by
  intro p e R s m args below meth c H locs ls CX hl hR hL hsz h1 h2
  obtain ⟨hx, hb, hr, hlk, hml, hown, hts, hnm, hG, hR0, hRm, hex⟩ := id CX
  have hvc : G.vS.category = 1 := hG.2.2.2.2.2.1
  unfold zb_ifne at ok
  unfold zo_ifne at K
  split at ok
  · rename_i o n e1
    obtain ⟨q1, q2, q3⟩ := of_decide_eq_true ok
    subst q1
    subst q2
    split at K
    · exact lv_if_ne hx hb e1 q3 (fun c9 => K.2 c9 p e R s m args below meth c H locs ls CX (zlm_kp _ hl) hR hL hsz h1 h2) (fun c9 => K.1 c9 p e R s m args below meth c H locs ls CX (zlm_kp _ hl) hR hL hsz h1 h2)
    · exact K.elim
  · cases ok

def zb_iflt (cc : ByteArray) (pc len r1 r2 r3 : Nat) (ts : List Nat) : Bool := match decode cc pc with
  | .ok (.ifCond .lt o, n) => decide (n = 3 ∧ len = 3 ∧ (pc : Int) + o = (r1 : Int))
  | _ => false
theorem zx_iflt {G : zG} {l : Launch} {d : Nat} {y : zY} {E : Nat → List Value → zH → (zR → zH → Prop) → Prop} {M : zM} {Q : zR → zH → Prop} {h0 : zH} {pc len r1 r2 r3 : Nat} {ts : List Nat} {lv : List (Nat × Value)} {st : List Value} {h : zH} (ok : zb_iflt y.cc pc len r1 r2 r3 ts = true) (K : zo_iflt E M Q (zP G l d y Q h0) pc len r1 r2 r3 ts lv st h) : zP G l d y Q h0 (pc, lv, st, h) := by
  intro p e R s m args below meth c H locs ls CX hl hR hL hsz h1 h2
  obtain ⟨hx, hb, hr, hlk, hml, hown, hts, hnm, hG, hR0, hRm, hex⟩ := id CX
  have hvc : G.vS.category = 1 := hG.2.2.2.2.2.1
  unfold zb_iflt at ok
  unfold zo_iflt at K
  split at ok
  · rename_i o n e1
    obtain ⟨q1, q2, q3⟩ := of_decide_eq_true ok
    subst q1
    subst q2
    split at K
    · exact lv_if_lt hx hb e1 q3 (fun c9 => K.1 c9 p e R s m args below meth c H locs ls CX (zlm_kp _ hl) hR hL hsz h1 h2) (fun c9 => K.2 c9 p e R s m args below meth c H locs ls CX (zlm_kp _ hl) hR hL hsz h1 h2)
    · exact K.elim
  · cases ok

def zb_ifge (cc : ByteArray) (pc len r1 r2 r3 : Nat) (ts : List Nat) : Bool := match decode cc pc with
  | .ok (.ifCond .ge o, n) => decide (n = 3 ∧ len = 3 ∧ (pc : Int) + o = (r1 : Int))
  | _ => false
theorem zx_ifge {G : zG} {l : Launch} {d : Nat} {y : zY} {E : Nat → List Value → zH → (zR → zH → Prop) → Prop} {M : zM} {Q : zR → zH → Prop} {h0 : zH} {pc len r1 r2 r3 : Nat} {ts : List Nat} {lv : List (Nat × Value)} {st : List Value} {h : zH} (ok : zb_ifge y.cc pc len r1 r2 r3 ts = true) (K : zo_ifge E M Q (zP G l d y Q h0) pc len r1 r2 r3 ts lv st h) : zP G l d y Q h0 (pc, lv, st, h) := by
  intro p e R s m args below meth c H locs ls CX hl hR hL hsz h1 h2
  obtain ⟨hx, hb, hr, hlk, hml, hown, hts, hnm, hG, hR0, hRm, hex⟩ := id CX
  have hvc : G.vS.category = 1 := hG.2.2.2.2.2.1
  unfold zb_ifge at ok
  unfold zo_ifge at K
  split at ok
  · rename_i o n e1
    obtain ⟨q1, q2, q3⟩ := of_decide_eq_true ok
    subst q1
    subst q2
    split at K
    · exact lv_if_ge hx hb e1 q3 (fun c9 => K.1 c9 p e R s m args below meth c H locs ls CX (zlm_kp _ hl) hR hL hsz h1 h2) (fun c9 => K.2 c9 p e R s m args below meth c H locs ls CX (zlm_kp _ hl) hR hL hsz h1 h2)
    · exact K.elim
  · cases ok

def zb_ifgt (cc : ByteArray) (pc len r1 r2 r3 : Nat) (ts : List Nat) : Bool := match decode cc pc with
  | .ok (.ifCond .gt o, n) => decide (n = 3 ∧ len = 3 ∧ (pc : Int) + o = (r1 : Int))
  | _ => false
theorem zx_ifgt {G : zG} {l : Launch} {d : Nat} {y : zY} {E : Nat → List Value → zH → (zR → zH → Prop) → Prop} {M : zM} {Q : zR → zH → Prop} {h0 : zH} {pc len r1 r2 r3 : Nat} {ts : List Nat} {lv : List (Nat × Value)} {st : List Value} {h : zH} (ok : zb_ifgt y.cc pc len r1 r2 r3 ts = true) (K : zo_ifgt E M Q (zP G l d y Q h0) pc len r1 r2 r3 ts lv st h) : zP G l d y Q h0 (pc, lv, st, h) := by
  intro p e R s m args below meth c H locs ls CX hl hR hL hsz h1 h2
  obtain ⟨hx, hb, hr, hlk, hml, hown, hts, hnm, hG, hR0, hRm, hex⟩ := id CX
  have hvc : G.vS.category = 1 := hG.2.2.2.2.2.1
  unfold zb_ifgt at ok
  unfold zo_ifgt at K
  split at ok
  · rename_i o n e1
    obtain ⟨q1, q2, q3⟩ := of_decide_eq_true ok
    subst q1
    subst q2
    split at K
    · exact lv_if_gt hx hb e1 q3 (fun c9 => K.1 c9 p e R s m args below meth c H locs ls CX (zlm_kp _ hl) hR hL hsz h1 h2) (fun c9 => K.2 c9 p e R s m args below meth c H locs ls CX (zlm_kp _ hl) hR hL hsz h1 h2)
    · exact K.elim
  · cases ok

def zb_ifle (cc : ByteArray) (pc len r1 r2 r3 : Nat) (ts : List Nat) : Bool := match decode cc pc with
  | .ok (.ifCond .le o, n) => decide (n = 3 ∧ len = 3 ∧ (pc : Int) + o = (r1 : Int))
  | _ => false
theorem zx_ifle {G : zG} {l : Launch} {d : Nat} {y : zY} {E : Nat → List Value → zH → (zR → zH → Prop) → Prop} {M : zM} {Q : zR → zH → Prop} {h0 : zH} {pc len r1 r2 r3 : Nat} {ts : List Nat} {lv : List (Nat × Value)} {st : List Value} {h : zH} (ok : zb_ifle y.cc pc len r1 r2 r3 ts = true) (K : zo_ifle E M Q (zP G l d y Q h0) pc len r1 r2 r3 ts lv st h) : zP G l d y Q h0 (pc, lv, st, h) := by
  intro p e R s m args below meth c H locs ls CX hl hR hL hsz h1 h2
  obtain ⟨hx, hb, hr, hlk, hml, hown, hts, hnm, hG, hR0, hRm, hex⟩ := id CX
  have hvc : G.vS.category = 1 := hG.2.2.2.2.2.1
  unfold zb_ifle at ok
  unfold zo_ifle at K
  split at ok
  · rename_i o n e1
    obtain ⟨q1, q2, q3⟩ := of_decide_eq_true ok
    subst q1
    subst q2
    split at K
    · exact lv_if_le hx hb e1 q3 (fun c9 => K.1 c9 p e R s m args below meth c H locs ls CX (zlm_kp _ hl) hR hL hsz h1 h2) (fun c9 => K.2 c9 p e R s m args below meth c H locs ls CX (zlm_kp _ hl) hR hL hsz h1 h2)
    · exact K.elim
  · cases ok

def zb_iceq (cc : ByteArray) (pc len r1 r2 r3 : Nat) (ts : List Nat) : Bool := match decode cc pc with
  | .ok (.if_icmp .eq o, n) => decide (n = 3 ∧ len = 3 ∧ (pc : Int) + o = (r1 : Int))
  | _ => false
theorem zx_iceq {G : zG} {l : Launch} {d : Nat} {y : zY} {E : Nat → List Value → zH → (zR → zH → Prop) → Prop} {M : zM} {Q : zR → zH → Prop} {h0 : zH} {pc len r1 r2 r3 : Nat} {ts : List Nat} {lv : List (Nat × Value)} {st : List Value} {h : zH} (ok : zb_iceq y.cc pc len r1 r2 r3 ts = true) (K : zo_iceq E M Q (zP G l d y Q h0) pc len r1 r2 r3 ts lv st h) : zP G l d y Q h0 (pc, lv, st, h) := by
  intro p e R s m args below meth c H locs ls CX hl hR hL hsz h1 h2
  obtain ⟨hx, hb, hr, hlk, hml, hown, hts, hnm, hG, hR0, hRm, hex⟩ := id CX
  have hvc : G.vS.category = 1 := hG.2.2.2.2.2.1
  unfold zb_iceq at ok
  unfold zo_iceq at K
  split at ok
  · rename_i o n e1
    obtain ⟨q1, q2, q3⟩ := of_decide_eq_true ok
    subst q1
    subst q2
    split at K
    · exact lv_icmp_eq hx hb e1 q3 (fun c9 => K.1 c9 p e R s m args below meth c H locs ls CX (zlm_kp _ hl) hR hL hsz h1 h2) (fun c9 => K.2 c9 p e R s m args below meth c H locs ls CX (zlm_kp _ hl) hR hL hsz h1 h2)
    · exact K.elim
  · cases ok

def zb_icne (cc : ByteArray) (pc len r1 r2 r3 : Nat) (ts : List Nat) : Bool := match decode cc pc with
  | .ok (.if_icmp .ne o, n) => decide (n = 3 ∧ len = 3 ∧ (pc : Int) + o = (r1 : Int))
  | _ => false
theorem zx_icne {G : zG} {l : Launch} {d : Nat} {y : zY} {E : Nat → List Value → zH → (zR → zH → Prop) → Prop} {M : zM} {Q : zR → zH → Prop} {h0 : zH} {pc len r1 r2 r3 : Nat} {ts : List Nat} {lv : List (Nat × Value)} {st : List Value} {h : zH} (ok : zb_icne y.cc pc len r1 r2 r3 ts = true) (K : zo_icne E M Q (zP G l d y Q h0) pc len r1 r2 r3 ts lv st h) : zP G l d y Q h0 (pc, lv, st, h) := by
  intro p e R s m args below meth c H locs ls CX hl hR hL hsz h1 h2
  obtain ⟨hx, hb, hr, hlk, hml, hown, hts, hnm, hG, hR0, hRm, hex⟩ := id CX
  have hvc : G.vS.category = 1 := hG.2.2.2.2.2.1
  unfold zb_icne at ok
  unfold zo_icne at K
  split at ok
  · rename_i o n e1
    obtain ⟨q1, q2, q3⟩ := of_decide_eq_true ok
    subst q1
    subst q2
    split at K
    · exact lv_icmp_ne hx hb e1 q3 (fun c9 => K.2 c9 p e R s m args below meth c H locs ls CX (zlm_kp _ hl) hR hL hsz h1 h2) (fun c9 => K.1 c9 p e R s m args below meth c H locs ls CX (zlm_kp _ hl) hR hL hsz h1 h2)
    · exact K.elim
  · cases ok

def zb_iclt (cc : ByteArray) (pc len r1 r2 r3 : Nat) (ts : List Nat) : Bool := match decode cc pc with
  | .ok (.if_icmp .lt o, n) => decide (n = 3 ∧ len = 3 ∧ (pc : Int) + o = (r1 : Int))
  | _ => false
theorem zx_iclt {G : zG} {l : Launch} {d : Nat} {y : zY} {E : Nat → List Value → zH → (zR → zH → Prop) → Prop} {M : zM} {Q : zR → zH → Prop} {h0 : zH} {pc len r1 r2 r3 : Nat} {ts : List Nat} {lv : List (Nat × Value)} {st : List Value} {h : zH} (ok : zb_iclt y.cc pc len r1 r2 r3 ts = true) (K : zo_iclt E M Q (zP G l d y Q h0) pc len r1 r2 r3 ts lv st h) : zP G l d y Q h0 (pc, lv, st, h) := by
  intro p e R s m args below meth c H locs ls CX hl hR hL hsz h1 h2
  obtain ⟨hx, hb, hr, hlk, hml, hown, hts, hnm, hG, hR0, hRm, hex⟩ := id CX
  have hvc : G.vS.category = 1 := hG.2.2.2.2.2.1
  unfold zb_iclt at ok
  unfold zo_iclt at K
  split at ok
  · rename_i o n e1
    obtain ⟨q1, q2, q3⟩ := of_decide_eq_true ok
    subst q1
    subst q2
    split at K
    · exact lv_icmp_lt hx hb e1 q3 (fun c9 => K.1 c9 p e R s m args below meth c H locs ls CX (zlm_kp _ hl) hR hL hsz h1 h2) (fun c9 => K.2 c9 p e R s m args below meth c H locs ls CX (zlm_kp _ hl) hR hL hsz h1 h2)
    · exact K.elim
  · cases ok

def zb_icge (cc : ByteArray) (pc len r1 r2 r3 : Nat) (ts : List Nat) : Bool := match decode cc pc with
  | .ok (.if_icmp .ge o, n) => decide (n = 3 ∧ len = 3 ∧ (pc : Int) + o = (r1 : Int))
  | _ => false
theorem zx_icge {G : zG} {l : Launch} {d : Nat} {y : zY} {E : Nat → List Value → zH → (zR → zH → Prop) → Prop} {M : zM} {Q : zR → zH → Prop} {h0 : zH} {pc len r1 r2 r3 : Nat} {ts : List Nat} {lv : List (Nat × Value)} {st : List Value} {h : zH} (ok : zb_icge y.cc pc len r1 r2 r3 ts = true) (K : zo_icge E M Q (zP G l d y Q h0) pc len r1 r2 r3 ts lv st h) : zP G l d y Q h0 (pc, lv, st, h) := by
  intro p e R s m args below meth c H locs ls CX hl hR hL hsz h1 h2
  obtain ⟨hx, hb, hr, hlk, hml, hown, hts, hnm, hG, hR0, hRm, hex⟩ := id CX
  have hvc : G.vS.category = 1 := hG.2.2.2.2.2.1
  unfold zb_icge at ok
  unfold zo_icge at K
  split at ok
  · rename_i o n e1
    obtain ⟨q1, q2, q3⟩ := of_decide_eq_true ok
    subst q1
    subst q2
    split at K
    · exact lv_icmp_ge hx hb e1 q3 (fun c9 => K.1 c9 p e R s m args below meth c H locs ls CX (zlm_kp _ hl) hR hL hsz h1 h2) (fun c9 => K.2 c9 p e R s m args below meth c H locs ls CX (zlm_kp _ hl) hR hL hsz h1 h2)
    · exact K.elim
  · cases ok

def zb_icgt (cc : ByteArray) (pc len r1 r2 r3 : Nat) (ts : List Nat) : Bool := match decode cc pc with
  | .ok (.if_icmp .gt o, n) => decide (n = 3 ∧ len = 3 ∧ (pc : Int) + o = (r1 : Int))
  | _ => false
theorem zx_icgt {G : zG} {l : Launch} {d : Nat} {y : zY} {E : Nat → List Value → zH → (zR → zH → Prop) → Prop} {M : zM} {Q : zR → zH → Prop} {h0 : zH} {pc len r1 r2 r3 : Nat} {ts : List Nat} {lv : List (Nat × Value)} {st : List Value} {h : zH} (ok : zb_icgt y.cc pc len r1 r2 r3 ts = true) (K : zo_icgt E M Q (zP G l d y Q h0) pc len r1 r2 r3 ts lv st h) : zP G l d y Q h0 (pc, lv, st, h) := by
  intro p e R s m args below meth c H locs ls CX hl hR hL hsz h1 h2
  obtain ⟨hx, hb, hr, hlk, hml, hown, hts, hnm, hG, hR0, hRm, hex⟩ := id CX
  have hvc : G.vS.category = 1 := hG.2.2.2.2.2.1
  unfold zb_icgt at ok
  unfold zo_icgt at K
  split at ok
  · rename_i o n e1
    obtain ⟨q1, q2, q3⟩ := of_decide_eq_true ok
    subst q1
    subst q2
    split at K
    · exact lv_icmp_gt hx hb e1 q3 (fun c9 => K.1 c9 p e R s m args below meth c H locs ls CX (zlm_kp _ hl) hR hL hsz h1 h2) (fun c9 => K.2 c9 p e R s m args below meth c H locs ls CX (zlm_kp _ hl) hR hL hsz h1 h2)
    · exact K.elim
  · cases ok

def zb_icle (cc : ByteArray) (pc len r1 r2 r3 : Nat) (ts : List Nat) : Bool := match decode cc pc with
  | .ok (.if_icmp .le o, n) => decide (n = 3 ∧ len = 3 ∧ (pc : Int) + o = (r1 : Int))
  | _ => false
theorem zx_icle {G : zG} {l : Launch} {d : Nat} {y : zY} {E : Nat → List Value → zH → (zR → zH → Prop) → Prop} {M : zM} {Q : zR → zH → Prop} {h0 : zH} {pc len r1 r2 r3 : Nat} {ts : List Nat} {lv : List (Nat × Value)} {st : List Value} {h : zH} (ok : zb_icle y.cc pc len r1 r2 r3 ts = true) (K : zo_icle E M Q (zP G l d y Q h0) pc len r1 r2 r3 ts lv st h) : zP G l d y Q h0 (pc, lv, st, h) := by
  intro p e R s m args below meth c H locs ls CX hl hR hL hsz h1 h2
  obtain ⟨hx, hb, hr, hlk, hml, hown, hts, hnm, hG, hR0, hRm, hex⟩ := id CX
  have hvc : G.vS.category = 1 := hG.2.2.2.2.2.1
  unfold zb_icle at ok
  unfold zo_icle at K
  split at ok
  · rename_i o n e1
    obtain ⟨q1, q2, q3⟩ := of_decide_eq_true ok
    subst q1
    subst q2
    split at K
    · exact lv_icmp_le hx hb e1 q3 (fun c9 => K.1 c9 p e R s m args below meth c H locs ls CX (zlm_kp _ hl) hR hL hsz h1 h2) (fun c9 => K.2 c9 p e R s m args below meth c H locs ls CX (zlm_kp _ hl) hR hL hsz h1 h2)
    · exact K.elim
  · cases ok

