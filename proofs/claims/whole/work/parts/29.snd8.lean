def zisn (own : String) (k c n : Nat) : Bool := zCL.any (fun q => decide (q.1 = own) && Nat.beq q.2.1 k && Nat.beq q.2.2 c) && (match vwCl[c]? with
  | some r => Nat.beq r.2.2 n
  | none => false)
theorem zisn_ok {own : String} {k c n : Nat} (h : zisn own k c n = true) : ∃ r : vw_C, vwCl[c]? = some r ∧ r.2.2 = n ∧ Cond.classLink own k r.1 ∈ zW0 ∧ Cond.instantiable r.1 r.2.2 ∈ zW0 ∧ Cond.initialized r.1 ∈ zW0 := by
  unfold zisn at h
  rw [Bool.and_eq_true] at h
  obtain ⟨q, hq, e⟩ := List.any_eq_true.mp h.1
  simp only [Bool.and_eq_true, decide_eq_true_eq] at e
  obtain ⟨⟨e1, e2⟩, e3⟩ := e
  have e2 := Nat.eq_of_beq_eq_true e2
  have e3 := Nat.eq_of_beq_eq_true e3
  obtain ⟨r, g1, g2, g3, g4⟩ := zCL_ok q hq
  obtain ⟨a, b, c'⟩ := q
  obtain rfl : a = own := e1
  obtain rfl : b = k := e2
  obtain rfl : c' = c := e3
  have hn := h.2
  have g1 : vwCl[c']? = some r := g1
  rw [g1] at hn
  exact ⟨r, g1, Nat.eq_of_beq_eq_true hn, g2, g3, g4⟩
def zb_new (own : String) (cc : ByteArray) (pc len r1 r2 r3 : Nat) (ts : List Nat) : Bool := match decode cc pc with
  | .ok (.new k, n) => decide (n = 3 ∧ len = 3) && zisn own k r1 r2
  | _ => false
def zisa (own : String) (k q : Nat) : Bool := zCA.any (fun z => decide (z.1 = own) && Nat.beq z.2.1 k && Nat.beq z.2.2 q)
theorem zCA_r : ∀ q ∈ zCA, ¬ q.2.2 < 3 ∧ ¬ 4 < q.2.2 := by decide +kernel
theorem zisa_ok {own : String} {k q : Nat} (h : zisa own k q = true) : Cond.classLink own k (zrn q) ∈ zW0 ∧ ¬ q < 3 ∧ ¬ 4 < q := by
  obtain ⟨z, hz, e⟩ := List.any_eq_true.mp h
  simp only [Bool.and_eq_true, decide_eq_true_eq] at e
  obtain ⟨⟨e1, e2⟩, e3⟩ := e
  have e2 := Nat.eq_of_beq_eq_true e2
  have e3 := Nat.eq_of_beq_eq_true e3
  have g := zCA_ok z hz
  have g2 := zCA_r z hz
  obtain ⟨a, b, c⟩ := z
  obtain rfl : a = own := e1
  obtain rfl : b = k := e2
  obtain rfl : c = q := e3
  exact ⟨g, g2⟩
def zb_newa (own : String) (cc : ByteArray) (pc len r1 r2 r3 : Nat) (ts : List Nat) : Bool := match decode cc pc with
  | .ok (.newarray t, n) => decide (n = 2 ∧ len = 2) && (match t with
    | .int => Nat.beq r1 0
    | .long => Nat.beq r1 1
    | .byte => Nat.beq r1 2
    | _ => false)
  | .ok (.anewarray k, n) => decide (n = 3 ∧ len = 3) && zisa own k r1
  | _ => false
theorem zAR_i : Cond.arrayClass .int ∈ zW0 := zW0_t (List.mem_of_getElem? (i := 95) (by decide +kernel)) rfl
theorem zAR_j : Cond.arrayClass .long ∈ zW0 := zW0_t (List.mem_of_getElem? (i := 182) (by decide +kernel)) rfl
theorem zAR_b : Cond.arrayClass .byte ∈ zW0 := zW0_t (List.mem_of_getElem? (i := 72) (by decide +kernel)) rfl
theorem zcells {n h0 N : Nat} (a : n + 1 ≤ N) (b : h0 ≤ n) : n - h0 + 1 ≤ N - h0 := by omega
theorem znw_some {h h1 : zH} {c n : Nat} (e : znw h c n = some h1) : ¬ h.1 = 0 ∧ h.2.1 + 1 ≤ zNL ∧ h.2.2.1 + n ≤ zSL ∧ h1 = (h.1 + 1, h.2.1 + 1, h.2.2.1 + n, va_up h.2.2.2 (999 + h.1) (some (.inr (c, zdf c)))) := by
  unfold znw at e
  split at e
  · cases e
  · rename_i q
    simp only [not_or] at q
    cases e
    exact ⟨q.1, by omega, by omega, rfl⟩
theorem zna_some {h h1 : zH} {q : Nat} {n : Int32} (e : zna h q n = some h1) : ¬ n < 0 ∧ n.toNatClampNeg ≤ 100000 ∧ ¬ h.1 = 0 ∧ h.2.1 + 1 ≤ zNL ∧ h.2.2.1 + n.toNatClampNeg ≤ zSL ∧ h1 = (h.1 + 1, h.2.1 + 1, h.2.2.1 + n.toNatClampNeg, va_up h.2.2.2 (999 + h.1) (some (zar q n.toNatClampNeg))) := by
  unfold zna at e
  split at e
  · cases e
  · rename_i z
    simp only [not_or] at z
    cases e
    exact ⟨z.1, by omega, z.2.2.1, by omega, by omega, rfl⟩
def zplain (v : Value) : Bool := match v with
  | .ref _ => false
  | .retAddr _ => false
  | _ => true
theorem zdfm {G : zG} (v : Value) (h : zplain v = true) : zmv G v = v := by cases v <;> first | rfl | cases h
section ZH
variable {G : zG} {l : Launch} {d : Nat} {y : zY} {h0 : zH} {p : Program} {e : Env} {R : Room} {s : State} {m : MethodId} {args : Array Value} {below : List Frame} {meth : Method} {c : Code} {H : Heap} {locs : List Loc} {ls : Array Slot} {cells slots : Nat} {Q : State → Prop} {h h1 : zH} {pc : Nat} {rest : List Value}
theorem znew (CX : zCX G l d y h0 p R s m args meth c) (hR : zRel G h H) {k r1 r2 : Nat} (hd : decode y.cc pc = .ok (.new k, 3)) (ok : zisn y.nm.cls k r1 r2 = true) (ev : znw h r1 r2 = some h1) (hc : cells + 1 ≤ R.cells) (hs : slots + r2 ≤ R.slots)
    (K : ∀ H1 : Heap, zRel G h1 H1 → H.size ≤ H1.size → zad G (999 + h.1) = H.size → W p l e R s m args below meth c H1 locs (cells + 1) (slots + r2) Q (F0 m (pc + 3) ls (.ref H.size :: rest))) : W p l e R s m args below meth c H locs cells slots Q (F0 m pc ls rest) := by
  obtain ⟨hx, hb, hr, hlk, hml, hown, hts, hnm, hG, hR0, hRm, hex⟩ := id CX
  obtain ⟨n1, n2, n3, rfl⟩ := znw_some ev
  obtain ⟨r, g1, rfl, g3, g4, g5⟩ := zisn_ok ok
  have hr1 : r1 < 9 := by
    rcases Nat.lt_or_ge r1 9 with z | z
    · exact z
    · rw [List.getElem?_eq_none (by show vwCl.length ≤ r1; exact z)] at g1
      cases g1
  obtain ⟨qc, ty0, c1, hin, hty, hnm2, hdf⟩ := zcOK_all r1 hr1
  obtain rfl : qc = r := Option.some.inj (c1.symm.trans g1)
  have hKn := hG.2.2.1.1 r1 _ c1
  refine W.newcK hx hb hown (hts _ g3) (hts _ g4) (hts _ g5) rfl hd hc hs hKn.2.1 rfl fun H1 kC hkC e1 z1 o1 => ?_
  have hcell : va_at G.D vwCl (H.size, zme G (.inr (r1, zdf r1))) H1 := by
    refine ⟨qc, c1, ((u_born ty0 hts hin hKn hkC e1 hty).to fun j hj => ?_)⟩
    show defaultValue (ty0 j) = vp_V ((zdf r1).map (zmv G)) j
    rw [hdf j hj]
    unfold vp_V
    rw [List.getD_eq_getElem?_getD, List.getD_eq_getElem?_getD, List.getElem?_map]
    have : ∀ v ∈ zdf r1, zmv G v = v := by
      match r1, hr1 with
      | 0, _ => intro v hv; simp only [zdf, List.mem_cons, List.not_mem_nil, or_false] at hv; rcases hv with rfl | rfl | rfl | rfl | rfl | rfl <;> rfl
      | 1, _ => intro v hv; simp only [zdf, List.mem_cons, List.not_mem_nil, or_false] at hv; rcases hv with rfl; rfl
      | 2, _ => intro v hv; exact zdfm v (List.all_eq_true.mp (show (zdf 2).all zplain = true by decide +kernel) v hv)
      | 3, _ => intro v hv; exact zdfm v (List.all_eq_true.mp (show (zdf 3).all zplain = true by decide +kernel) v hv)
      | 4, _ => intro v hv; exact zdfm v (List.all_eq_true.mp (show (zdf 4).all zplain = true by decide +kernel) v hv)
      | 5, _ => intro v hv; exact zdfm v (List.all_eq_true.mp (show (zdf 5).all zplain = true by decide +kernel) v hv)
      | 6, _ => intro v hv; exact zdfm v (List.all_eq_true.mp (show (zdf 6).all zplain = true by decide +kernel) v hv)
      | 7, _ => intro v hv; exact zdfm v (List.all_eq_true.mp (show (zdf 7).all zplain = true by decide +kernel) v hv)
      | 8, _ => intro v hv; exact zdfm v (List.all_eq_true.mp (show (zdf 8).all zplain = true by decide +kernel) v hv)
      | n + 9, h => omega
    cases hq : (zdf r1)[j]? with
    | none => rfl
    | some v => show v = zmv G v; rw [this v (List.mem_of_getElem? hq)]
  obtain ⟨w1, w2⟩ := hR.push (n := qc.2.2) (x := .inr (r1, zdf r1)) n1 n2 n3 (H1 := H1) hcell z1 o1
  exact K H1 w1 (by rw [z1]; omega) w2
theorem znewP (CX : zCX G l d y h0 p R s m args meth c) (hR : zRel G h H) {q : Nat} {t : ArrayType} {ty : FieldType} {n : Int32} (hd : decode y.cc pc = .ok (.newarray t, 2)) (hty : newarray.typeOf t = ty) (hw : Cond.arrayClass ty ∈ zW0) (hq : (ztys G)[q]? = some (G.ac q, ty)) (hcb : componentBytes ty ≤ 8) (hpr : ∀ cA : ClassId, va_RA s cA ty = (s.vm.findClass ("[" ++ ty.toString) = some cA)) (hz : ∀ (cA : ClassId) (N : Nat), ∀ x, zme G (zar q N) = .inl (G.ac q, x) → vp_cell cA x = arrV cA N (fun _ => defaultValue ty)) (hzx : ∀ N, ∃ x, zme G (zar q N) = .inl (G.ac q, x)) (ev : zna h q n = some h1) (hc : cells + 1 ≤ R.cells) (hs : slots + n.toNatClampNeg ≤ R.slots)
    (K : ∀ H1 : Heap, zRel G h1 H1 → H.size ≤ H1.size → zad G (999 + h.1) = H.size → W p l e R s m args below meth c H1 locs (cells + 1) (slots + n.toNatClampNeg) Q (F0 m (pc + 2) ls (.ref H.size :: rest))) : W p l e R s m args below meth c H locs cells slots Q (F0 m pc ls (.int n :: rest)) := by
  obtain ⟨hx, hb, hr, hlk, hml, hown, hts, hnm, hG, hR0, hRm, hex⟩ := id CX
  obtain ⟨n0, n5, n1, n2, n3, rfl⟩ := zna_some ev
  subst hty
  refine va_newaK hx hb (hts _ hw) rfl hd rfl n0 rfl (Nat.le_trans (Nat.mul_le_mul n5 hcb) (by decide)) hc hs rfl fun H1 cA e1 z1 o1 hAr hNm => ?_
  have hA9 := (hG.2.2.1.2 q _ hq).2
  have hA9 : s.vm.findClass ("[" ++ (newarray.typeOf t).toString) = some (G.ac q) := by rw [← hpr]; exact hA9
  obtain rfl : cA = G.ac q := Option.some.inj (hNm.symm.trans hA9)
  obtain ⟨x, hx9⟩ := hzx n.toNatClampNeg
  obtain ⟨w1, w2⟩ := hR.push (n := n.toNatClampNeg) (x := zar q n.toNatClampNeg) n1 n2 n3 (H1 := H1) (by rw [hx9]; show H1[H.size]? = some (vp_cell (G.ac q) x); rw [hz _ _ _ hx9]; exact e1) z1 o1
  exact K H1 w1 (by rw [z1]; omega) w2
theorem znewR (CX : zCX G l d y h0 p R s m args meth c) (hR : zRel G h H) {q k : Nat} {n : Int32} (hd : decode y.cc pc = .ok (.anewarray k, 3)) (ok : zisa y.nm.cls k q = true) (ev : zna h q n = some h1) (hc : cells + 1 ≤ R.cells) (hs : slots + n.toNatClampNeg ≤ R.slots)
    (K : ∀ H1 : Heap, zRel G h1 H1 → H.size ≤ H1.size → zad G (999 + h.1) = H.size → W p l e R s m args below meth c H1 locs (cells + 1) (slots + n.toNatClampNeg) Q (F0 m (pc + 3) ls (.ref H.size :: rest))) : W p l e R s m args below meth c H locs cells slots Q (F0 m pc ls (.int n :: rest)) := by
  obtain ⟨hx, hb, hr, hlk, hml, hown, hts, hnm, hG, hR0, hRm, hex⟩ := id CX
  obtain ⟨n0, n5, n1, n2, n3, rfl⟩ := zna_some ev
  obtain ⟨g1, g2, g3⟩ := zisa_ok ok
  have hov : va_AO (zrn q) s := by
    match q, g2, g3 with
    | 3, _, _ => exact hG.2.2.2.2.2.2.2.2.2.2.2.2.2.2.2.1
    | 4, _, _ => exact hG.2.2.2.2.2.2.2.2.2.2.2.2.2.2.2.2.1
    | 0, h, _ => omega
    | 1, h, _ => omega
    | 2, h, _ => omega
    | n + 5, _, h => omega
  refine W.anew hx hb hown (hts _ g1) (va_AO.use hov) rfl hd rfl n0 (Nat.le_trans (Nat.mul_le_mul_right 4 n5) (by decide)) hc hs fun cA kA comp f1 f2 f3 f4 => ?_
  generalize hH1 : H.push ({ cls := cA, slots := Array.replicate n.toNatClampNeg .null, vm := .none } : Cell) = H1
  have z1 : H1.size = H.size + 1 := by rw [← hH1, Array.size_push]
  have e1 : H1[H.size]? = some (arrV cA n.toNatClampNeg (fun _ => .null)) := by rw [← hH1, Array.getElem?_push_size, ← arrV_new]
  have o1 : ∀ q : Nat, q < H.size → H1[q]? = H[q]? := fun q hq => by rw [← hH1, Array.getElem?_push, if_neg (Nat.ne_of_lt hq)]
  obtain ⟨kA9, comp9, -, -, -, f9⟩ := (hG.2.2.1.2 q _ (ztys_r g2 g3)).2
  obtain rfl : cA = G.ac q := Option.some.inj (f1.symm.trans f9)
  obtain ⟨w1, w2⟩ := hR.push (n := n.toNatClampNeg) (x := zar q n.toNatClampNeg) n1 n2 n3 (H1 := H1) (by
    have : zme G (zar q n.toNatClampNeg) = .inl (G.ac q, n.toNatClampNeg, .inr (.inr (.inr (.inr (fun _ => none))))) := by
      match q, g2, g3 with
      | 3, _, _ => rfl
      | 4, _, _ => rfl
      | 0, h, _ => omega
      | 1, h, _ => omega
      | 2, h, _ => omega
      | n + 5, _, h => omega
    rw [this]
    show H1[H.size]? = some (vp_cell _ _)
    rw [vp_cell_q]
    exact e1) z1 o1
  exact K H1 w1 (by rw [z1]; omega) w2
end ZH
theorem zx_new {G : zG} {l : Launch} {d : Nat} {y : zY} {E : Nat → List Value → zH → (zR → zH → Prop) → Prop} {M : zM} {Q : zR → zH → Prop} {h0 : zH} {pc len r1 r2 r3 : Nat} {ts : List Nat} {lv : List (Nat × Value)} {st : List Value} {h : zH} (ok : zb_new y.nm.cls y.cc pc len r1 r2 r3 ts = true) (K : zo_new E M Q (zP G l d y Q h0) pc len r1 r2 r3 ts lv st h) : zP G l d y Q h0 (pc, lv, st, h) := by
  intro p e R s m args below meth c H locs ls CX hl hR hL hsz h1 h2
  obtain ⟨hx, hb, hr, hlk, hml, hown, hts, hnm, hG, hR0, hRm, hex⟩ := id CX
  have hvc : G.vS.category = 1 := hG.2.2.2.2.2.1
  unfold zb_new at ok
  split at ok
  · rename_i k n e1
    rw [Bool.and_eq_true] at ok
    obtain ⟨q1, q2⟩ := of_decide_eq_true ok.1
    subst q1
    subst q2
    unfold zo_new at K
    obtain ⟨x9, ev, K⟩ := K
    obtain ⟨n1, n2, n3, e9⟩ := znw_some ev
    have hRm1 := hRm.2.2.1
    have hRm2 := hRm.2.2.2
    refine znew CX hR e1 ok.2 ev (by dsimp only at h1 ⊢; omega) (by dsimp only at h2 ⊢; omega) (fun H1 g1 g2 g3 => ?_)
    have c1 : x9.2.1 = h.2.1 + 1 := by rw [e9]
    have c2 : x9.2.2.1 = h.2.2.1 + r2 := by rw [e9]
    have K9 := K p e R s m args below meth c H1 locs ls CX (zlm_kp _ hl) g1 hL (Nat.le_trans hsz g2) (by show h0.2.1 ≤ x9.2.1; rw [c1]; exact Nat.le_succ_of_le h1) (by show h0.2.2.1 ≤ x9.2.2.1; rw [c2]; exact Nat.le_trans h2 (Nat.le_add_right _ _))
    dsimp only at h1 h2 K9 ⊢
    rw [c1, c2, show h.2.1 + 1 - h0.2.1 = h.2.1 - h0.2.1 + 1 by omega, show h.2.2.1 + r2 - h0.2.2.1 = h.2.2.1 - h0.2.2.1 + r2 by omega] at K9
    rw [← g3]
    exact K9
  · cases ok

theorem zx_newa {G : zG} {l : Launch} {d : Nat} {y : zY} {E : Nat → List Value → zH → (zR → zH → Prop) → Prop} {M : zM} {Q : zR → zH → Prop} {h0 : zH} {pc len r1 r2 r3 : Nat} {ts : List Nat} {lv : List (Nat × Value)} {st : List Value} {h : zH} (ok : zb_newa y.nm.cls y.cc pc len r1 r2 r3 ts = true) (K : zo_newa E M Q (zP G l d y Q h0) pc len r1 r2 r3 ts lv st h) : zP G l d y Q h0 (pc, lv, st, h) := by
  intro p e R s m args below meth c H locs ls CX hl hR hL hsz h1 h2
  obtain ⟨hx, hb, hr, hlk, hml, hown, hts, hnm, hG, hR0, hRm, hex⟩ := id CX
  have hvc : G.vS.category = 1 := hG.2.2.2.2.2.1
  unfold zo_newa at K
  split at K
  · rename_i n9 st9
    obtain ⟨x9, ev, K⟩ := K
    obtain ⟨n0, n5, n1, n2, n3, e9⟩ := zna_some ev
    have hRm1 := hRm.2.2.1
    have hRm2 := hRm.2.2.2
    unfold zb_newa at ok
    split at ok
    · rename_i t n e1
      rw [Bool.and_eq_true] at ok
      obtain ⟨q1, q2⟩ := of_decide_eq_true ok.1
      subst q1
      subst q2
      split at ok
      · have hq := Nat.eq_of_beq_eq_true ok.2
        subst hq
        refine znewP CX hR (ty := .int) e1 rfl zAR_i rfl (by decide) (fun _ => rfl) (fun cA N x hx => by cases hx; rfl) (fun N => ⟨_, rfl⟩) ev (by dsimp only at h1 ⊢; omega) (by dsimp only at h2 ⊢; omega) (fun H1 g1 g2 g3 => ?_)
        have c1 : x9.2.1 = h.2.1 + 1 := by rw [e9]
        have c2 : x9.2.2.1 = h.2.2.1 + n9.toNatClampNeg := by rw [e9]
        have K9 := K p e R s m args below meth c H1 locs ls CX (zlm_kp _ hl) g1 hL (Nat.le_trans hsz g2) (by show h0.2.1 ≤ x9.2.1; rw [c1]; exact Nat.le_succ_of_le h1) (by show h0.2.2.1 ≤ x9.2.2.1; rw [c2]; exact Nat.le_trans h2 (Nat.le_add_right _ _))
        dsimp only at h1 h2 K9 ⊢
        rw [c1, c2, show h.2.1 + 1 - h0.2.1 = h.2.1 - h0.2.1 + 1 by omega, show h.2.2.1 + n9.toNatClampNeg - h0.2.2.1 = h.2.2.1 - h0.2.2.1 + n9.toNatClampNeg by omega] at K9
        rw [← g3]
        exact K9
      · have hq := Nat.eq_of_beq_eq_true ok.2
        subst hq
        refine znewP CX hR (ty := .long) e1 rfl zAR_j rfl (by decide) (fun _ => rfl) (fun cA N x hx => by cases hx; rfl) (fun N => ⟨_, rfl⟩) ev (by dsimp only at h1 ⊢; omega) (by dsimp only at h2 ⊢; omega) (fun H1 g1 g2 g3 => ?_)
        have c1 : x9.2.1 = h.2.1 + 1 := by rw [e9]
        have c2 : x9.2.2.1 = h.2.2.1 + n9.toNatClampNeg := by rw [e9]
        have K9 := K p e R s m args below meth c H1 locs ls CX (zlm_kp _ hl) g1 hL (Nat.le_trans hsz g2) (by show h0.2.1 ≤ x9.2.1; rw [c1]; exact Nat.le_succ_of_le h1) (by show h0.2.2.1 ≤ x9.2.2.1; rw [c2]; exact Nat.le_trans h2 (Nat.le_add_right _ _))
        dsimp only at h1 h2 K9 ⊢
        rw [c1, c2, show h.2.1 + 1 - h0.2.1 = h.2.1 - h0.2.1 + 1 by omega, show h.2.2.1 + n9.toNatClampNeg - h0.2.2.1 = h.2.2.1 - h0.2.2.1 + n9.toNatClampNeg by omega] at K9
        rw [← g3]
        exact K9
      · have hq := Nat.eq_of_beq_eq_true ok.2
        subst hq
        refine znewP CX hR (ty := .byte) e1 rfl zAR_b rfl (by decide) (fun _ => rfl) (fun cA N x hx => by cases hx; rfl) (fun N => ⟨_, rfl⟩) ev (by dsimp only at h1 ⊢; omega) (by dsimp only at h2 ⊢; omega) (fun H1 g1 g2 g3 => ?_)
        have c1 : x9.2.1 = h.2.1 + 1 := by rw [e9]
        have c2 : x9.2.2.1 = h.2.2.1 + n9.toNatClampNeg := by rw [e9]
        have K9 := K p e R s m args below meth c H1 locs ls CX (zlm_kp _ hl) g1 hL (Nat.le_trans hsz g2) (by show h0.2.1 ≤ x9.2.1; rw [c1]; exact Nat.le_succ_of_le h1) (by show h0.2.2.1 ≤ x9.2.2.1; rw [c2]; exact Nat.le_trans h2 (Nat.le_add_right _ _))
        dsimp only at h1 h2 K9 ⊢
        rw [c1, c2, show h.2.1 + 1 - h0.2.1 = h.2.1 - h0.2.1 + 1 by omega, show h.2.2.1 + n9.toNatClampNeg - h0.2.2.1 = h.2.2.1 - h0.2.2.1 + n9.toNatClampNeg by omega] at K9
        rw [← g3]
        exact K9
      · exact absurd ok.2 Bool.false_ne_true
    · rename_i k n e1
      rw [Bool.and_eq_true] at ok
      obtain ⟨q1, q2⟩ := of_decide_eq_true ok.1
      subst q1
      subst q2
      refine znewR CX hR e1 ok.2 ev (by dsimp only at h1 ⊢; omega) (by dsimp only at h2 ⊢; omega) (fun H1 g1 g2 g3 => ?_)
      have c1 : x9.2.1 = h.2.1 + 1 := by rw [e9]
      have c2 : x9.2.2.1 = h.2.2.1 + n9.toNatClampNeg := by rw [e9]
      have K9 := K p e R s m args below meth c H1 locs ls CX (zlm_kp _ hl) g1 hL (Nat.le_trans hsz g2) (by show h0.2.1 ≤ x9.2.1; rw [c1]; exact Nat.le_succ_of_le h1) (by show h0.2.2.1 ≤ x9.2.2.1; rw [c2]; exact Nat.le_trans h2 (Nat.le_add_right _ _))
      dsimp only at h1 h2 K9 ⊢
      rw [c1, c2, show h.2.1 + 1 - h0.2.1 = h.2.1 - h0.2.1 + 1 by omega, show h.2.2.1 + n9.toNatClampNeg - h0.2.2.1 = h.2.2.1 - h0.2.2.1 + n9.toNatClampNeg by omega] at K9
      rw [← g3]
      exact K9
    · cases ok
  · exact K.elim
