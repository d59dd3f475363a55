theorem zone {D : va_G} {cl : List vw_C} {a : Nat} {e : va_E} {H : Heap} (h : va_at D cl (a, e) H) : va_P D cl [(a, e)] H := fun k q hk => by
  cases k with
  | zero => cases hk; exact h
  | succ n => simp at hk
theorem ztw {D : va_G} {cl : List vw_C} {a b : Nat} {e f : va_E} {H : Heap} (h : va_at D cl (a, e) H) (g : va_at D cl (b, f) H) : va_P D cl [(a, e), (b, f)] H := fun k q hk => by
  match k, hk with
  | 0, hk => cases hk; exact h
  | 1, hk => cases hk; exact g
  | n + 2, hk => simp at hk
def zisf (own : String) (k c f : Nat) : Bool := zFL.any (fun q => Nat.beq q.2.1 k && (decide (q.1 = own) && Nat.beq q.2.1 k && Nat.beq q.2.2.1 c && Nat.beq q.2.2.2.1 f))
def zisp (own : String) (k c f kd : Nat) (init : Bool) : Bool := zFL.any (fun q => Nat.beq q.2.1 k && (decide (q.1 = own) && Nat.beq q.2.1 k && Nat.beq q.2.2.1 c && Nat.beq q.2.2.2.1 f && Nat.beq q.2.2.2.2.1 kd && (!q.2.2.2.2.2 || init)))
def zisx (own : String) (k f : Nat) : Bool := zFT.any (fun q => Nat.beq q.2.1 k && (decide (q.1 = own) && Nat.beq q.2.1 k && Nat.beq q.2.2 f))
theorem zisf_ok {own : String} {k c f : Nat} (h : zisf own k c f = true) : ∃ (kd : Nat) (fin : Bool), zflP (own, k, c, f, kd, fin) := by
  obtain ⟨q, hq, e⟩ := List.any_eq_true.mp h
  simp only [Bool.and_eq_true, decide_eq_true_eq] at e
  have e := e.2
  obtain ⟨⟨⟨e1, e2⟩, e3⟩, e4⟩ := e
  have e2 := Nat.eq_of_beq_eq_true e2
  have e3 := Nat.eq_of_beq_eq_true e3
  have e4 := Nat.eq_of_beq_eq_true e4
  have g := zFL_ok q hq
  obtain ⟨a, b, c', d, kd, fin⟩ := q
  obtain rfl : a = own := e1
  obtain rfl : b = k := e2
  obtain rfl : c' = c := e3
  obtain rfl : d = f := e4
  exact ⟨kd, fin, g⟩
theorem zisp_ok {own : String} {k c f kd : Nat} {ini : Bool} (h : zisp own k c f kd ini = true) : ∃ fin : Bool, zflP (own, k, c, f, kd, fin) ∧ (fin = false ∨ ini = true) := by
  obtain ⟨q, hq, e⟩ := List.any_eq_true.mp h
  simp only [Bool.and_eq_true, decide_eq_true_eq, Bool.or_eq_true, Bool.not_eq_true'] at e
  have e := e.2
  obtain ⟨⟨⟨⟨⟨e1, e2⟩, e3⟩, e4⟩, e5⟩, e6⟩ := e
  have e2 := Nat.eq_of_beq_eq_true e2
  have e3 := Nat.eq_of_beq_eq_true e3
  have e4 := Nat.eq_of_beq_eq_true e4
  have e5 := Nat.eq_of_beq_eq_true e5
  have g := zFL_ok q hq
  obtain ⟨a, b, c', d, kd', fin⟩ := q
  obtain rfl : a = own := e1
  obtain rfl : b = k := e2
  obtain rfl : c' = c := e3
  obtain rfl : d = f := e4
  obtain rfl : kd' = kd := e5
  exact ⟨fin, g, e6⟩
theorem zisx_ok {own : String} {k f : Nat} (h : zisx own k f = true) : zftP (own, k, f) := by
  obtain ⟨q, hq, e⟩ := List.any_eq_true.mp h
  simp only [Bool.and_eq_true, decide_eq_true_eq] at e
  have e := e.2
  obtain ⟨⟨e1, e2⟩, e3⟩ := e
  have e2 := Nat.eq_of_beq_eq_true e2
  have e3 := Nat.eq_of_beq_eq_true e3
  have g := zFT_ok q hq
  obtain ⟨a, b, c⟩ := q
  obtain rfl : a = own := e1
  obtain rfl : b = k := e2
  obtain rfl : c = f := e3
  exact g
theorem zgf_some {h : zH} {a c k : Nat} {v : Value} (e : zgf h a c k = some v) : ∃ fs, zcl h a = some (.inr (c, fs)) ∧ fs[k]? = some v := by
  unfold zgf at e
  split at e
  · rename_i d fs q
    split at e
    · rename_i b
      have := Nat.eq_of_beq_eq_true b
      subst this
      exact ⟨fs, q, e⟩
    · cases e
  · cases e
theorem vwCl_9 {q : vw_C} (h : vwCl[9]? = some q) : False := by simp [vwCl] at h
/-- an object among what was there before: a text -/
theorem zsc_obj {G : zG} {a c : Nat} {fs : List Value} (h : zsc G a = some (.inr (c, fs))) : ∃ k, k < 29 ∧ a = 2 * k ∧ c = 9 ∧ fs = [.ref (2 * k + 1), .int 0] := by
  unfold zsc at h
  split at h
  · cases h
  · split at h
    · rename_i h1 h2
      split at h
      · rename_i h3
        cases h
        exact ⟨a / 2, by omega, by omega, rfl, by rw [show 2 * (a / 2) = a by omega]⟩
      · cases h
    · cases h
theorem zad_lo {G : zG} {i : Nat} (h : i < 1000) : zad G i = G.ra i := by unfold zad; rw [if_pos h]
section ZH
variable {G : zG} {l : Launch} {d : Nat} {y : zY} {Q0 : zR → zH → Prop} {h0 : zH} {p : Program} {e : Env} {R : Room} {s : State} {m : MethodId} {args : Array Value} {below : List Frame} {meth : Method} {c : Code} {H : Heap} {locs : List Loc} {ls : Array Slot} {cells slots : Nat} {Q : State → Prop} {h : zH} {pc : Nat} {rest : List Value}
theorem zget (CX : zCX G l d y h0 p R s m args meth c) (hR : zRel G h H) (hL : ∀ z ∈ locs, G.sz ≤ z.base) (hsz : s.heap.size ≤ H.size) {k r1 r2 a : Nat} {v : Value} (hd : decode y.cc pc = .ok (.getfield k, 3)) (ok : (zisf y.nm.cls k r1 r2 || (Nat.beq r1 9 && zisx y.nm.cls k r2)) = true) (ev : zgf h a r1 r2 = some v)
    (K : W p l e R s m args below meth c H locs cells slots Q (F0 m (pc + 3) ls (zmv G v :: rest))) : W p l e R s m args below meth c H locs cells slots Q (F0 m pc ls (.ref (zad G a) :: rest)) := by
  obtain ⟨hx, hb, hr, hlk, hml, hown, hts, hnm, hG, hR0, hRm, hex⟩ := id CX
  obtain ⟨fs, q1, q2⟩ := zgf_some ev
  by_cases ha : a < 1000
  · obtain ⟨j, hj, rfl, rfl, rfl⟩ := zsc_obj (hR.lo ha q1)
    have hno : zisf y.nm.cls k 9 r2 = false := by
      cases hh : zisf y.nm.cls k 9 r2
      · rfl
      · obtain ⟨kd, fin, r, g1, -⟩ := zisf_ok hh
        exact (vwCl_9 g1).elim
    rw [hno, Bool.false_or, Bool.and_eq_true] at ok
    have hw : (if r2 = 0 then Cond.fieldLink y.nm.cls k "java/lang/String" "value" "[B" else Cond.fieldLink y.nm.cls k "java/lang/String" "coder" "B") ∈ zW0 := zisx_ok ok.2
    obtain ⟨t1, t2, t3, t4⟩ := hG.2.2.2.2.2.2.2.2.1 j hj
    have kp : ∀ a : Nat, a < G.H0.size → ¬ zA G a → s.heap[a]? = G.H0[a]? := fun a ha _ => hR0.below (by rw [hG.2.1] at ha; exact ha)
    rw [zad_lo ha]
    match r2, q2, hw with
    | 0, q2, hw =>
      cases q2
      have K : W p l e R s m args below meth c H locs cells slots Q (F0 m (pc + 3) ls (.ref (G.ra (2 * j + 1)) :: rest)) := by
        rw [← zad_lo (G := G) (show 2 * j + 1 < 1000 by omega)]; exact K
      exact vk_getf hx hb (t3.kept kp) (hR0.S hR hsz hL) hown (hts _ hw) (fun x h => h) hd K
    | 1, q2, hw =>
      cases q2
      exact vk_getf hx hb (t2.kept kp) (hR0.S hR hsz hL) hown (hts _ hw) (fun x h => h) hd K
    | n + 2, q2, hw => simp at q2
  · have hat := hR.at (by omega) q1
    obtain ⟨r9, hr9, -⟩ := id hat
    have hf : zisf y.nm.cls k r1 r2 = true := by
      cases hh : zisf y.nm.cls k r1 r2
      · rw [hh, Bool.false_or, Bool.and_eq_true] at ok
        have := Nat.eq_of_beq_eq_true ok.1
        subst this
        exact (vwCl_9 hr9).elim
      · rfl
    obtain ⟨kd, fin, r, g1, g2, g3, g4, -, -⟩ := zisf_ok hf
    obtain ⟨qc, ty, c1, c2, c3, c4, -⟩ := zcOK_all r1 (by
      rcases Nat.lt_or_ge r1 9 with z | z
      · exact z
      · have g1 : vwCl[r1]? = some r := g1
        rw [List.getElem?_eq_none (by show vwCl.length ≤ r1; exact z)] at g1
        cases g1)
    obtain rfl : qc = r := Option.some.inj (c1.symm.trans g1)
    refine va_get (cl := vwCl) (D := G.D) (Ts := zW0) (C := qc.1) (T := qc.2.1) (N := qc.2.2) (ref := qc.1) hx hb hts c2 hown hG.2.2.1 (zone hat) 0 rfl c1 r2 g2 (hts _ g3) (fun x hx => by rw [← g4]; exact hx) (v := zmv G v) ?_ hd K
    show (fs.map (zmv G))[r2]? = some (zmv G v)
    rw [List.getElem?_map, q2]
    rfl
end ZH
def zb_getI (own : String) (cc : ByteArray) (pc len r1 r2 r3 : Nat) (ts : List Nat) : Bool := match decode cc pc with
  | .ok (.getfield k, n) => decide (n = 3 ∧ len = 3) && (zisf own k r1 r2 || (Nat.beq r1 9 && zisx own k r2))
  | _ => false
theorem zb_getI_ok {own : String} {cc : ByteArray} {pc len r1 r2 r3 : Nat} {ts : List Nat} (h : zb_getI own cc pc len r1 r2 r3 ts = true) : ∃ k, decode cc pc = .ok (.getfield k, 3) ∧ len = 3 ∧ (zisf own k r1 r2 || (Nat.beq r1 9 && zisx own k r2)) = true := by
  unfold zb_getI at h
  split at h
  · rename_i k n e
    rw [Bool.and_eq_true] at h
    obtain ⟨h1, h2⟩ := of_decide_eq_true h.1
    rw [h1] at e
    exact ⟨k, e, h2, h.2⟩
  · cases h
theorem zx_getI {G : zG} {l : Launch} {d : Nat} {y : zY} {E : Nat → List Value → zH → (zR → zH → Prop) → Prop} {M : zM} {Q : zR → zH → Prop} {h0 : zH} {pc len r1 r2 r3 : Nat} {ts : List Nat} {lv : List (Nat × Value)} {st : List Value} {h : zH} (ok : zb_getI y.nm.cls y.cc pc len r1 r2 r3 ts = true) (K : zo_getI E M Q (zP G l d y Q h0) pc len r1 r2 r3 ts lv st h) : zP G l d y Q h0 (pc, lv, st, h) := by
  intro p e R s m args below meth c H locs ls CX hl hR hL hsz h1 h2
  obtain ⟨hx, hb, hr, hlk, hml, hown, hts, hnm, hG, hR0, hRm, hex⟩ := id CX
  have hvc : G.vS.category = 1 := hG.2.2.2.2.2.1
  obtain ⟨k, hd, hn, hk⟩ := zb_getI_ok ok
  subst hn
  unfold zo_getI at K
  split at K
  · obtain ⟨x, ev, K⟩ := K
    exact zget CX hR hL hsz hd hk ev (K p e R s m args below meth c H locs ls CX (zlm_kp _ hl) hR hL hsz h1 h2)
  · exact K.elim

theorem zx_getJ {G : zG} {l : Launch} {d : Nat} {y : zY} {E : Nat → List Value → zH → (zR → zH → Prop) → Prop} {M : zM} {Q : zR → zH → Prop} {h0 : zH} {pc len r1 r2 r3 : Nat} {ts : List Nat} {lv : List (Nat × Value)} {st : List Value} {h : zH} (ok : zb_getI y.nm.cls y.cc pc len r1 r2 r3 ts = true) (K : zo_getJ E M Q (zP G l d y Q h0) pc len r1 r2 r3 ts lv st h) : zP G l d y Q h0 (pc, lv, st, h) := by
  intro p e R s m args below meth c H locs ls CX hl hR hL hsz h1 h2
  obtain ⟨hx, hb, hr, hlk, hml, hown, hts, hnm, hG, hR0, hRm, hex⟩ := id CX
  have hvc : G.vS.category = 1 := hG.2.2.2.2.2.1
  obtain ⟨k, hd, hn, hk⟩ := zb_getI_ok ok
  subst hn
  unfold zo_getJ at K
  split at K
  · obtain ⟨x, ev, K⟩ := K
    exact zget CX hR hL hsz hd hk ev (K p e R s m args below meth c H locs ls CX (zlm_kp _ hl) hR hL hsz h1 h2)
  · exact K.elim

theorem zx_getR {G : zG} {l : Launch} {d : Nat} {y : zY} {E : Nat → List Value → zH → (zR → zH → Prop) → Prop} {M : zM} {Q : zR → zH → Prop} {h0 : zH} {pc len r1 r2 r3 : Nat} {ts : List Nat} {lv : List (Nat × Value)} {st : List Value} {h : zH} (ok : zb_getI y.nm.cls y.cc pc len r1 r2 r3 ts = true) (K : zo_getR E M Q (zP G l d y Q h0) pc len r1 r2 r3 ts lv st h) : zP G l d y Q h0 (pc, lv, st, h) := by
  intro p e R s m args below meth c H locs ls CX hl hR hL hsz h1 h2
  obtain ⟨hx, hb, hr, hlk, hml, hown, hts, hnm, hG, hR0, hRm, hex⟩ := id CX
  have hvc : G.vS.category = 1 := hG.2.2.2.2.2.1
  obtain ⟨k, hd, hn, hk⟩ := zb_getI_ok ok
  subst hn
  unfold zo_getR at K
  split at K
  · obtain ⟨x, ev, K⟩ := K
    exact zget CX hR hL hsz hd hk ev (K p e R s m args below meth c H locs ls CX (zlm_kp _ hl) hR hL hsz h1 h2)
  · exact K.elim

