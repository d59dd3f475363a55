theorem zlocs {G : zG} {locs : List Loc} {a : Nat} (ha : 1000 ≤ a) (hL : ∀ z ∈ locs, G.sz ≤ z.base) (i : Nat) : ∀ z ∈ locs ++ [(⟨zad G a, i⟩ : Loc)], G.sz ≤ z.base := fun z hz => by
  rcases List.mem_append.mp hz with hz | hz
  · exact hL z hz
  · cases List.mem_singleton.mp hz
    show G.sz ≤ zad G a
    rw [zad_hi ha]
    omega
section ZH
variable {G : zG} {l : Launch} {d : Nat} {y : zY} {h0 : zH} {p : Program} {e : Env} {R : Room} {s : State} {m : MethodId} {args : Array Value} {below : List Frame} {meth : Method} {c : Code} {H : Heap} {locs : List Loc} {ls : Array Slot} {cells slots : Nat} {Q : State → Prop} {h h1 : zH} {pc a : Nat} {i : Int32} {rest : List Value}
theorem ziast (CX : zCX G l d y h0 p R s m args meth c) (hR : zRel G h H) (hL : ∀ z ∈ locs, G.sz ≤ z.base) {x : Int32} (hd : decode y.cc pc = .ok (.iastore, 1)) (ev : zis h a i x = some h1)
    (K : ∀ (H1 : Heap) (locs1 : List Loc), zRel G h1 H1 → H1.size = H.size → (∀ z ∈ locs1, G.sz ≤ z.base) → W p l e R s m args below meth c H1 locs1 cells slots Q (F0 m (pc + 1) ls rest)) : W p l e R s m args below meth c H locs cells slots Q (F0 m pc ls (.int x :: .int i :: .ref (zad G a) :: rest)) := by
  obtain ⟨hx, hb, hr, hlk, hml, hown, hts, hnm, hG, hR0, hRm, hex⟩ := id CX
  unfold zis at ev
  split at ev
  · rename_i n f q1
    split at ev
    · cases ev
    · rename_i q2
      simp only [not_or] at q2
      obtain ⟨z1, z2⟩ := q2
      cases ev
      have ha : 1000 ≤ a := by omega
      have hc : H[zad G a]? = some (vp_cell (G.ac 0) (n, .inl f)) := hR.at ha q1
      refine W.iast hx hb hc ((hG.2.2.1.2 0 _ rfl).1 n (fun j => .int (f j))) (fun q => by cases q) (by show ¬ (i < 0 ∨ (arrV _ _ _).slots.size ≤ _); rw [arrV_size]; exact fun z => z.elim z2.1 z2.2) rfl rfl hd fun H1 e z oq => ?_
      refine K H1 _ (hR.up ha ?_ z oq) z (zlocs ha hL _)
      show H1[zad G a]? = some (vp_cell (G.ac 0) (n, .inl (upd f i.toNatClampNeg x)))
      rw [e, vp_cell_i, vp_cell_i, arrV_store]
      congr 2
      funext q
      by_cases hq : q = i.toNatClampNeg
      · subst hq
        simp [updV, upd]
      · simp [updV, upd, hq]
  · cases ev
theorem zbast (CX : zCX G l d y h0 p R s m args meth c) (hR : zRel G h H) (hL : ∀ z ∈ locs, G.sz ≤ z.base) {x : Int32} (hd : decode y.cc pc = .ok (.bastore, 1)) (ev : zbs h a i x = some h1)
    (K : ∀ (H1 : Heap) (locs1 : List Loc), zRel G h1 H1 → H1.size = H.size → (∀ z ∈ locs1, G.sz ≤ z.base) → W p l e R s m args below meth c H1 locs1 cells slots Q (F0 m (pc + 1) ls rest)) : W p l e R s m args below meth c H locs cells slots Q (F0 m pc ls (.int x :: .int i :: .ref (zad G a) :: rest)) := by
  obtain ⟨hx, hb, hr, hlk, hml, hown, hts, hnm, hG, hR0, hRm, hex⟩ := id CX
  unfold zbs at ev
  split at ev
  · rename_i n f q1
    split at ev
    · cases ev
    · rename_i q2
      simp only [not_or] at q2
      obtain ⟨z1, z2⟩ := q2
      cases ev
      have ha : 1000 ≤ a := by omega
      have hc : H[zad G a]? = some (vp_cell (G.ac 2) (n, .inl f)) := hR.at ha q1
      refine W.bast hx hb hc ((hG.2.2.1.2 2 _ rfl).1 n (fun j => .int (f j))) (fun q => by cases q) (by show ¬ (i < 0 ∨ (arrV _ _ _).slots.size ≤ _); rw [arrV_size]; exact fun z => z.elim z2.1 z2.2) rfl rfl hd fun H1 e z oq => ?_
      refine K H1 _ (hR.up ha ?_ z oq) z (zlocs ha hL _)
      show H1[zad G a]? = some (vp_cell (G.ac 2) (n, .inl (upd f i.toNatClampNeg (vp_nar .byte x))))
      rw [e, vp_cell_i, vp_cell_i, arrV_store]
      congr 2
      funext q
      by_cases hq : q = i.toNatClampNeg
      · subst hq
        simp [updV, upd, vp_nar, narrow]
      · simp [updV, upd, hq]
  · cases ev
theorem zlast (CX : zCX G l d y h0 p R s m args meth c) (hR : zRel G h H) (hL : ∀ z ∈ locs, G.sz ≤ z.base) {x : Int64} (hd : decode y.cc pc = .ok (.lastore, 1)) (ev : zjs h a i x = some h1)
    (K : ∀ (H1 : Heap) (locs1 : List Loc), zRel G h1 H1 → H1.size = H.size → (∀ z ∈ locs1, G.sz ≤ z.base) → W p l e R s m args below meth c H1 locs1 cells slots Q (F0 m (pc + 1) ls rest)) : W p l e R s m args below meth c H locs cells slots Q (F0 m pc ls (.long x :: .int i :: .ref (zad G a) :: rest)) := by
  obtain ⟨hx, hb, hr, hlk, hml, hown, hts, hnm, hG, hR0, hRm, hex⟩ := id CX
  unfold zjs at ev
  split at ev
  · rename_i n f q1
    split at ev
    · cases ev
    · rename_i q2
      simp only [not_or] at q2
      obtain ⟨z1, z2⟩ := q2
      cases ev
      have ha : 1000 ≤ a := by omega
      have hc : H[zad G a]? = some (vp_cell (G.ac 1) (n, .inr (.inl f))) := hR.at ha q1
      refine W.last hx hb hc ((hG.2.2.1.2 1 _ rfl).1 n (fun j => .long (f j))) (fun q => by cases q) (by show ¬ (i < 0 ∨ (arrV _ _ _).slots.size ≤ _); rw [arrV_size]; exact fun z => z.elim z2.1 z2.2) rfl rfl hd fun H1 e z oq => ?_
      refine K H1 _ (hR.up ha ?_ z oq) z (zlocs ha hL _)
      show H1[zad G a]? = some (vp_cell (G.ac 1) (n, .inr (.inl (vp_updL f i.toNatClampNeg x))))
      rw [e, vp_cell_l, vp_cell_l, arrV_store]
      congr 2
      funext q
      by_cases hq : q = i.toNatClampNeg
      · subst hq
        simp [updV, vp_updL]
      · simp [updV, vp_updL, hq]
  · cases ev
/-- what may lie in a row of references: its class can be put there -/
theorem zof_ok (CX : zCX G l d y h0 p R s m args meth c) (hR : zRel G h H) {q x : Nat} (hx : zof h q x = true) : ∃ (kA : Class) (comp : ClassId) (kE : Class) (cv : Cell) (kv : Class), s.vm.classes[G.ac q]? = some kA ∧ kA.kind = .array comp (.object (zrn q)) ∧ s.vm.classes[comp]? = some kE ∧ H[zad G x]? = some cv ∧ (∀ z, cv.vm ≠ .statics z) ∧ s.vm.classes[cv.cls]? = some kv ∧ s.vm.assignable cv.cls comp = true := by
  obtain ⟨hx9, hb, hr, hlk, hml, hown, hts, hnm, hG, hR0, hRm, hex⟩ := id CX
  unfold zof at hx
  split at hx
  · rename_i dd fs q1
    simp only [Bool.or_eq_true, Bool.and_eq_true, beq_iff_eq, decide_eq_true_eq] at hx
    rcases hx with ⟨⟨rfl, rfl⟩, h9⟩ | ⟨⟨rfl, rfl⟩, h9⟩
    · obtain ⟨r', hr', cellV, g1, g2, g3, -⟩ := hR.at h9 q1
      have hcls := (hG.2.2.1.1 6 _ rfl).2
      obtain ⟨kA, comp, k1, k2, k3, -⟩ := (hG.2.2.1.2 3 _ rfl).2
      have hcomp : comp = G.D.1 6 := Option.some.inj (k3.symm.trans hcls.1)
      subst hcomp
      obtain ⟨kC, hkC, -⟩ := hcls.2
      exact ⟨kA, _, kC, cellV, kC, k1, k2, hkC, g1, (fun q h => by rw [g3] at h; cases h), (by rw [g2]; exact hkC), (by rw [g2]; exact va_assign hcls)⟩
    · obtain ⟨j, hj, rfl, -, -⟩ := zsc_obj (hR.lo h9 q1)
      obtain ⟨kA, comp, k1, k2, k3, -⟩ := (hG.2.2.1.2 4 _ rfl).2
      obtain ⟨cell, t1, t2, t3, t4⟩ := (hG.2.2.2.2.2.2.2.2.1 j hj).1
      have hcomp : comp = cell.cls := Option.some.inj (k3.symm.trans t3)
      obtain ⟨kE, hkE, -⟩ := Vm.findClass_spec k3
      have hlt : G.ra (2 * j) < G.sz := by have t4 : ¬ G.sz ≤ G.ra (2 * j) := t4; omega
      refine ⟨kA, comp, kE, cell, kE, k1, k2, hkE, ?_, (fun q h => by rw [h] at t2; cases t2), (by rw [← hcomp]; exact hkE), (by rw [← hcomp]; exact Vm.assignable_self _ _)⟩
      rw [zad_lo h9, hR.below hlt]
      exact t1
  · cases hx
theorem zaast (CX : zCX G l d y h0 p R s m args meth c) (hR : zRel G h H) (hL : ∀ z ∈ locs, G.sz ≤ z.base) {x : Nat} (hd : decode y.cc pc = .ok (.aastore, 1)) (ev : zas h a i x = some h1)
    (K : ∀ (H1 : Heap) (locs1 : List Loc), zRel G h1 H1 → H1.size = H.size → (∀ z ∈ locs1, G.sz ≤ z.base) → W p l e R s m args below meth c H1 locs1 cells slots Q (F0 m (pc + 1) ls rest)) : W p l e R s m args below meth c H locs cells slots Q (F0 m pc ls (.ref (zad G x) :: .int i :: .ref (zad G a) :: rest)) := by
  obtain ⟨hx, hb, hr, hlk, hml, hown, hts, hnm, hG, hR0, hRm, hex⟩ := id CX
  unfold zas at ev
  split at ev
  · rename_i q n f q1
    split at ev
    · cases ev
    · rename_i q2
      simp only [not_or, Bool.not_eq_false] at q2
      obtain ⟨z1, z2, z3, z4⟩ := q2
      cases ev
      have ha : 1000 ≤ a := by omega
      have hc : H[zad G a]? = some (vp_cell (G.ac q) (n, .inr (.inr (.inr (.inr (fun j => (f j).map (zad G))))))) := hR.at ha q1
      obtain ⟨kA, comp, kE, cv, kv, k1, k2, k3, k4, k5, k6, k7⟩ := zof_ok CX hR z4
      refine W.aast hx hb hc (fun q h => by cases h) (fun h => by cases h) k1 k2 rfl k3 ⟨z2, by show _ < (arrV _ _ _).slots.size; rw [arrV_size]; omega⟩ k4 k5 k6 k7 rfl rfl hd fun H1 e z oq => ?_
      refine K H1 _ (hR.up ha ?_ z oq) z (zlocs ha hL _)
      show H1[zad G a]? = some (vp_cell (G.ac q) (n, .inr (.inr (.inr (.inr (fun j => (va_up f i.toNatClampNeg (some x) j).map (zad G)))))))
      rw [e, vp_cell_q, vp_cell_q, arrV_store]
      congr 2
      funext q
      by_cases hq : q = i.toNatClampNeg
      · subst hq
        simp [updV, va_up, va_rf]
      · simp [updV, va_up, hq]
  · cases ev
end ZH
def zb_iast (cc : ByteArray) (pc len r1 r2 r3 : Nat) (ts : List Nat) : Bool := match decode cc pc with
  | .ok (.iastore, n) => decide (n = 1 ∧ len = 1)
  | _ => false
theorem zb_iast_ok {cc : ByteArray} {pc len r1 r2 r3 : Nat} {ts : List Nat} (h : zb_iast cc pc len r1 r2 r3 ts = true) : decode cc pc = .ok (.iastore, 1) ∧ len = 1 := by
  unfold zb_iast at h
  split at h
  · rename_i n e
    obtain ⟨h1, h2⟩ := of_decide_eq_true h
    rw [h1] at e
    exact ⟨e, h2⟩
  · cases h
theorem zis_cs {h h1 : zH} {a : Nat} {i : Int32} {x : Int32} (e : zis h a i x = some h1) : h1.2.1 = h.2.1 ∧ h1.2.2.1 = h.2.2.1 := by
  unfold zis at e
  split at e
  · split at e
    · cases e
    · cases e
      exact ⟨rfl, rfl⟩
  · cases e
theorem zx_iast {G : zG} {l : Launch} {d : Nat} {y : zY} {E : Nat → List Value → zH → (zR → zH → Prop) → Prop} {M : zM} {Q : zR → zH → Prop} {h0 : zH} {pc len r1 r2 r3 : Nat} {ts : List Nat} {lv : List (Nat × Value)} {st : List Value} {h : zH} (ok : zb_iast y.cc pc len r1 r2 r3 ts = true) (K : zo_iast E M Q (zP G l d y Q h0) pc len r1 r2 r3 ts lv st h) : zP G l d y Q h0 (pc, lv, st, h) := by
  intro p e R s m args below meth c H locs ls CX hl hR hL hsz h1 h2
  obtain ⟨hx, hb, hr, hlk, hml, hown, hts, hnm, hG, hR0, hRm, hex⟩ := id CX
  have hvc : G.vS.category = 1 := hG.2.2.2.2.2.1
  obtain ⟨hd, hn⟩ := zb_iast_ok ok
  subst hn
  unfold zo_iast at K
  split at K
  · obtain ⟨x9, ev, K⟩ := K
    obtain ⟨c1, c2⟩ := zis_cs ev
    refine ziast CX hR hL hd ev (fun H1 locs1 g1 g2 g3 => ?_)
    have K9 := K p e R s m args below meth c H1 locs1 ls CX (zlm_kp _ hl) g1 g3 (by rw [g2]; exact hsz) (by show h0.2.1 ≤ x9.2.1; rw [c1]; exact h1) (by show h0.2.2.1 ≤ x9.2.2.1; rw [c2]; exact h2)
    dsimp only at K9 ⊢
    rw [c1, c2] at K9
    exact K9
  · exact K.elim

def zb_bast (cc : ByteArray) (pc len r1 r2 r3 : Nat) (ts : List Nat) : Bool := match decode cc pc with
  | .ok (.bastore, n) => decide (n = 1 ∧ len = 1)
  | _ => false
theorem zb_bast_ok {cc : ByteArray} {pc len r1 r2 r3 : Nat} {ts : List Nat} (h : zb_bast cc pc len r1 r2 r3 ts = true) : decode cc pc = .ok (.bastore, 1) ∧ len = 1 := by
  unfold zb_bast at h
  split at h
  · rename_i n e
    obtain ⟨h1, h2⟩ := of_decide_eq_true h
    rw [h1] at e
    exact ⟨e, h2⟩
  · cases h
theorem zbs_cs {h h1 : zH} {a : Nat} {i : Int32} {x : Int32} (e : zbs h a i x = some h1) : h1.2.1 = h.2.1 ∧ h1.2.2.1 = h.2.2.1 := by
  unfold zbs at e
  split at e
  · split at e
    · cases e
    · cases e
      exact ⟨rfl, rfl⟩
  · cases e
theorem zx_bast {G : zG} {l : Launch} {d : Nat} {y : zY} {E : Nat → List Value → zH → (zR → zH → Prop) → Prop} {M : zM} {Q : zR → zH → Prop} {h0 : zH} {pc len r1 r2 r3 : Nat} {ts : List Nat} {lv : List (Nat × Value)} {st : List Value} {h : zH} (ok : zb_bast y.cc pc len r1 r2 r3 ts = true) (K : zo_bast E M Q (zP G l d y Q h0) pc len r1 r2 r3 ts lv st h) : zP G l d y Q h0 (pc, lv, st, h) := by
  intro p e R s m args below meth c H locs ls CX hl hR hL hsz h1 h2
  obtain ⟨hx, hb, hr, hlk, hml, hown, hts, hnm, hG, hR0, hRm, hex⟩ := id CX
  have hvc : G.vS.category = 1 := hG.2.2.2.2.2.1
  obtain ⟨hd, hn⟩ := zb_bast_ok ok
  subst hn
  unfold zo_bast at K
  split at K
  · obtain ⟨x9, ev, K⟩ := K
    obtain ⟨c1, c2⟩ := zbs_cs ev
    refine zbast CX hR hL hd ev (fun H1 locs1 g1 g2 g3 => ?_)
    have K9 := K p e R s m args below meth c H1 locs1 ls CX (zlm_kp _ hl) g1 g3 (by rw [g2]; exact hsz) (by show h0.2.1 ≤ x9.2.1; rw [c1]; exact h1) (by show h0.2.2.1 ≤ x9.2.2.1; rw [c2]; exact h2)
    dsimp only at K9 ⊢
    rw [c1, c2] at K9
    exact K9
  · exact K.elim

def zb_last (cc : ByteArray) (pc len r1 r2 r3 : Nat) (ts : List Nat) : Bool := match decode cc pc with
  | .ok (.lastore, n) => decide (n = 1 ∧ len = 1)
  | _ => false
theorem zb_last_ok {cc : ByteArray} {pc len r1 r2 r3 : Nat} {ts : List Nat} (h : zb_last cc pc len r1 r2 r3 ts = true) : decode cc pc = .ok (.lastore, 1) ∧ len = 1 := by
  unfold zb_last at h
  split at h
  · rename_i n e
    obtain ⟨h1, h2⟩ := of_decide_eq_true h
    rw [h1] at e
    exact ⟨e, h2⟩
  · cases h
theorem zjs_cs {h h1 : zH} {a : Nat} {i : Int32} {x : Int64} (e : zjs h a i x = some h1) : h1.2.1 = h.2.1 ∧ h1.2.2.1 = h.2.2.1 := by
  unfold zjs at e
  split at e
  · split at e
    · cases e
    · cases e
      exact ⟨rfl, rfl⟩
  · cases e
theorem zx_last {G : zG} {l : Launch} {d : Nat} {y : zY} {E : Nat → List Value → zH → (zR → zH → Prop) → Prop} {M : zM} {Q : zR → zH → Prop} {h0 : zH} {pc len r1 r2 r3 : Nat} {ts : List Nat} {lv : List (Nat × Value)} {st : List Value} {h : zH} (ok : zb_last y.cc pc len r1 r2 r3 ts = true) (K : zo_last E M Q (zP G l d y Q h0) pc len r1 r2 r3 ts lv st h) : zP G l d y Q h0 (pc, lv, st, h) := by
  intro p e R s m args below meth c H locs ls CX hl hR hL hsz h1 h2
  obtain ⟨hx, hb, hr, hlk, hml, hown, hts, hnm, hG, hR0, hRm, hex⟩ := id CX
  have hvc : G.vS.category = 1 := hG.2.2.2.2.2.1
  obtain ⟨hd, hn⟩ := zb_last_ok ok
  subst hn
  unfold zo_last at K
  split at K
  · obtain ⟨x9, ev, K⟩ := K
    obtain ⟨c1, c2⟩ := zjs_cs ev
    refine zlast CX hR hL hd ev (fun H1 locs1 g1 g2 g3 => ?_)
    have K9 := K p e R s m args below meth c H1 locs1 ls CX (zlm_kp _ hl) g1 g3 (by rw [g2]; exact hsz) (by show h0.2.1 ≤ x9.2.1; rw [c1]; exact h1) (by show h0.2.2.1 ≤ x9.2.2.1; rw [c2]; exact h2)
    dsimp only at K9 ⊢
    rw [c1, c2] at K9
    exact K9
  · exact K.elim

def zb_aast (cc : ByteArray) (pc len r1 r2 r3 : Nat) (ts : List Nat) : Bool := match decode cc pc with
  | .ok (.aastore, n) => decide (n = 1 ∧ len = 1)
  | _ => false
theorem zb_aast_ok {cc : ByteArray} {pc len r1 r2 r3 : Nat} {ts : List Nat} (h : zb_aast cc pc len r1 r2 r3 ts = true) : decode cc pc = .ok (.aastore, 1) ∧ len = 1 := by
  unfold zb_aast at h
  split at h
  · rename_i n e
    obtain ⟨h1, h2⟩ := of_decide_eq_true h
    rw [h1] at e
    exact ⟨e, h2⟩
  · cases h
theorem zas_cs {h h1 : zH} {a : Nat} {i : Int32} {x : Nat} (e : zas h a i x = some h1) : h1.2.1 = h.2.1 ∧ h1.2.2.1 = h.2.2.1 := by
  unfold zas at e
  split at e
  · split at e
    · cases e
    · cases e
      exact ⟨rfl, rfl⟩
  · cases e
theorem zx_aast {G : zG} {l : Launch} {d : Nat} {y : zY} {E : Nat → List Value → zH → (zR → zH → Prop) → Prop} {M : zM} {Q : zR → zH → Prop} {h0 : zH} {pc len r1 r2 r3 : Nat} {ts : List Nat} {lv : List (Nat × Value)} {st : List Value} {h : zH} (ok : zb_aast y.cc pc len r1 r2 r3 ts = true) (K : zo_aast E M Q (zP G l d y Q h0) pc len r1 r2 r3 ts lv st h) : zP G l d y Q h0 (pc, lv, st, h) := by
  intro p e R s m args below meth c H locs ls CX hl hR hL hsz h1 h2
  obtain ⟨hx, hb, hr, hlk, hml, hown, hts, hnm, hG, hR0, hRm, hex⟩ := id CX
  have hvc : G.vS.category = 1 := hG.2.2.2.2.2.1
  obtain ⟨hd, hn⟩ := zb_aast_ok ok
  subst hn
  unfold zo_aast at K
  split at K
  · obtain ⟨x9, ev, K⟩ := K
    obtain ⟨c1, c2⟩ := zas_cs ev
    refine zaast CX hR hL hd ev (fun H1 locs1 g1 g2 g3 => ?_)
    have K9 := K p e R s m args below meth c H1 locs1 ls CX (zlm_kp _ hl) g1 g3 (by rw [g2]; exact hsz) (by show h0.2.1 ≤ x9.2.1; rw [c1]; exact h1) (by show h0.2.2.1 ≤ x9.2.2.1; rw [c2]; exact h2)
    dsimp only at K9 ⊢
    rw [c1, c2] at K9
    exact K9
  · exact K.elim

