theorem zpf_some {h h1 : zH} {a c k : Nat} {v : Value} (e : zpf h a c k v = some h1) : ∃ fs, zcl h a = some (.inr (c, fs)) ∧ 1000 ≤ a ∧ k < fs.length ∧ h1 = zup h a (.inr (c, fs.set k v)) := by
  unfold zpf at e
  split at e
  · rename_i d fs q
    split at e
    · rename_i b
      obtain ⟨b1, rfl, b3⟩ := b
      cases e
      exact ⟨fs, q, b1, b3, rfl⟩
    · cases e
  · cases e
def zini (own nm : String) (c : Nat) : Bool := decide (nm = "<init>") && (match vwCl[c]? with
  | some r => decide (r.1 = own)
  | none => false)
def zb_put (own nm : String) (cc : ByteArray) (pc len r1 r2 r3 : Nat) (ts : List Nat) : Bool := match decode cc pc with
  | .ok (.putfield k, n) => decide (n = 3 ∧ len = 3) && zisp own k r1 r2 r3 (zini own nm r1)
  | _ => false
theorem zb_put_ok {own nm : String} {cc : ByteArray} {pc len r1 r2 r3 : Nat} {ts : List Nat} (h : zb_put own nm cc pc len r1 r2 r3 ts = true) : ∃ k, decode cc pc = .ok (.putfield k, 3) ∧ len = 3 ∧ zisp own k r1 r2 r3 (zini own nm r1) = true := by
  unfold zb_put at h
  split at h
  · rename_i k n e
    rw [Bool.and_eq_true] at h
    obtain ⟨h1, h2⟩ := of_decide_eq_true h.1
    rw [h1] at e
    exact ⟨k, e, h2, h.2⟩
  · cases h
theorem zpt_ok {G : zG} {kd : Nat} {v : Value} {dsc : String} (hv : zpt kd v) (hk : zkd kd dsc) : ∃ ty, parseFieldDescriptor dsc = some ty ∧ narrow ty (zmv G v) = zmv G v ∧ fits ty (zmv G v) = true := by
  unfold zpt at hv
  split at hv
  · exact ⟨.int, hk, rfl, rfl⟩
  · exact ⟨.long, hk, rfl, rfl⟩
  · obtain ⟨t, h1, h2⟩ := hk
    refine ⟨t, h1, ?_⟩
    rcases h2 with ⟨n, rfl⟩ | ⟨u, rfl⟩
    · exact ⟨rfl, rfl⟩
    · exact ⟨rfl, rfl⟩
  · refine ⟨.boolean, hk, ?_⟩
    rcases hv with rfl | rfl
    · exact ⟨rfl, rfl⟩
    · exact ⟨rfl, rfl⟩
  · exact hv.elim
section ZH
variable {G : zG} {l : Launch} {d : Nat} {y : zY} {h0 : zH} {p : Program} {e : Env} {R : Room} {s : State} {m : MethodId} {args : Array Value} {below : List Frame} {meth : Method} {c : Code} {H : Heap} {locs : List Loc} {ls : Array Slot} {cells slots : Nat} {Q : State → Prop} {h h1 : zH} {pc : Nat} {rest : List Value}
theorem zput (CX : zCX G l d y h0 p R s m args meth c) (hR : zRel G h H) (hL : ∀ z ∈ locs, G.sz ≤ z.base) {k r1 r2 r3 a : Nat} {v : Value} (hd : decode y.cc pc = .ok (.putfield k, 3)) (ok : zisp y.nm.cls k r1 r2 r3 (zini y.nm.cls y.nm.name r1) = true) (hv : zpt r3 v) (ev : zpf h a r1 r2 v = some h1)
    (K : ∀ (H1 : Heap) (locs1 : List Loc), zRel G h1 H1 → H1.size = H.size → (∀ z ∈ locs1, G.sz ≤ z.base) → W p l e R s m args below meth c H1 locs1 cells slots Q (F0 m (pc + 3) ls rest)) : W p l e R s m args below meth c H locs cells slots Q (F0 m pc ls (zmv G v :: .ref (zad G a) :: rest)) := by
  obtain ⟨hx, hb, hr, hlk, hml, hown, hts, hnm, hG, hR0, hRm, hex⟩ := id CX
  obtain ⟨fs, p1, p2, p3, rfl⟩ := zpf_some ev
  obtain ⟨fin, ⟨r, g1, g2, g3, g4, g5, g6⟩, hfi⟩ := zisp_ok ok
  have hr1 : r1 < 9 := by
    rcases Nat.lt_or_ge r1 9 with z | z
    · exact z
    · have g1 : vwCl[r1]? = some r := g1
      rw [List.getElem?_eq_none (by show vwCl.length ≤ r1; exact z)] at g1
      cases g1
  obtain ⟨qc, ty0, c1, hin, hty, hnm2, -⟩ := zcOK_all r1 hr1
  obtain rfl : qc = r := Option.some.inj (c1.symm.trans g1)
  obtain ⟨C, T, N⟩ := qc
  have hK := hG.2.2.1
  have hat := hR.at p2 p1
  obtain ⟨ty, hdd, hn, hfit⟩ := zpt_ok (G := G) hv g6
  have hap := va_apart (own := y.nm.cls) (tys := ztys G) hts hin ty0 hty hnm2 hK c1
  obtain ⟨r', q0, cell, q1, q2, q3, q4⟩ := hat
  obtain rfl : r' = (C, T, N) := Option.some.inj (q0.symm.trans c1)
  obtain ⟨hS, hfc, kC, hkC, hkind⟩ := hK.1 r1 _ c1
  obtain ⟨cf, kf, fi, f, hi, hsl⟩ := hS r2 g2
  have hst := (u_facts hfc hkC (u_lays hts hin g2) hi).1
  have g4 : (T r2).1 = C := g4
  have hsame : s.fieldFound? C (T r2).2.1 (T r2).2.2.1 = some (cf, kf, fi, f) := by rw [← g4]; exact hi
  have hlay := hts _ (hin _ (u_in_lay g2))
  have fin2 : ∀ (H' : Heap), H'[zad G a]? = some (cell.setSlot (G.D.2 r1 r2) (zmv G v)) → H'.size = H.size → (∀ q, q ≠ zad G a → H'[q]? = H[q]?) → zRel G (zup h a (.inr (r1, fs.set r2 v))) H' := by
    intro H' e1 e2 e3
    refine hR.up p2 ?_ e2 e3
    refine ⟨(C, T, N), c1, t_OB.to (V := updV (vp_V (fs.map (zmv G))) r2 (zmv G v)) ⟨_, e1, q2, q3, t_set q4 hap g2 (zmv G v)⟩ (fun j _ => ?_)⟩
    show updV (vp_V (fs.map (zmv G))) r2 (zmv G v) j = vp_V ((fs.set r2 v).map (zmv G)) j
    rw [List.map_set]
    exact vp_updV_set (by rw [List.length_map]; exact p3) (zmv G v) j
  have hLs : ∀ i : Nat, ∀ z ∈ locs ++ [(⟨zad G a, i⟩ : Loc)], G.sz ≤ z.base := fun i z hz => by
    rcases List.mem_append.mp hz with hz | hz
    · exact hL z hz
    · cases List.mem_singleton.mp hz
      show G.sz ≤ zad G a
      rw [zad_hi p2]
      omega
  by_cases hff : fin = true
  · subst hff
    have hfi : zini y.nm.cls y.nm.name r1 = true := by rcases hfi with z | z; cases z; exact z
    unfold zini at hfi
    rw [c1] at hfi
    simp only [Bool.and_eq_true, decide_eq_true_eq] at hfi
    obtain ⟨f1, f2⟩ := hfi
    unfold u_lay at hlay
    rw [if_pos g5] at hlay
    have hcf : m.cls = cf := by
      obtain ⟨_, _, c', _, _, _, -, -, hf', -, -, -, hown2, -⟩ := Cond.laysFinal_spec hlay
      have e1 : c' = cf := by have := hi.symm.trans hf'; simp at this; exact this.1.symm
      have g4' : (T r2).1 = y.nm.cls := g4.trans f2
      rw [g4'] at hown2
      rw [← e1]; exact Option.some.inj (hown.symm.trans hown2)
    have h6 := u_fits hfc hkC hkind (Or.inr hlay) hi hdd hn hfit
    refine W.putFinK hx hb hown (hts _ g3) hsame hst hcf (by rw [hnm]; exact f1) (by rw [q2]; exact h6) q1 q3 (by rw [hsl]; exact k2_hasslot (q4 r2 g2)) rfl rfl hd fun H' e1 e2 e3 => ?_
    rw [hsl] at e1 ⊢
    exact K H' _ (fin2 H' e1 e2 e3) e2 (hLs _)
  · have hff : fin = false := by cases fin; rfl; exact absurd rfl hff
    subst hff
    unfold u_lay at hlay
    have g5 : (T r2).2.2.2 = false := g5
    rw [if_neg (by rw [g5]; exact Bool.false_ne_true)] at hlay
    have h6 := u_store hfc hkC hkind hlay hi hdd hn hfit
    refine W.putK hx hb (f := f) ⟨hown, hts _ g3, ⟨_, _, _, hsame⟩, hst⟩ (by rw [q2]; exact h6) q1 q3 (by rw [hsl]; exact k2_hasslot (q4 r2 g2)) rfl rfl hd fun H' e1 e2 e3 => ?_
    rw [hsl] at e1 ⊢
    exact K H' _ (fin2 H' e1 e2 e3) e2 (hLs _)
end ZH
theorem zx_put {G : zG} {l : Launch} {d : Nat} {y : zY} {E : Nat → List Value → zH → (zR → zH → Prop) → Prop} {M : zM} {Q : zR → zH → Prop} {h0 : zH} {pc len r1 r2 r3 : Nat} {ts : List Nat} {lv : List (Nat × Value)} {st : List Value} {h : zH} (ok : zb_put y.nm.cls y.nm.name y.cc pc len r1 r2 r3 ts = true) (K : zo_put E M Q (zP G l d y Q h0) pc len r1 r2 r3 ts lv st h) : zP G l d y Q h0 (pc, lv, st, h) := by
  intro p e R s m args below meth c H locs ls CX hl hR hL hsz h1 h2
  obtain ⟨hx, hb, hr, hlk, hml, hown, hts, hnm, hG, hR0, hRm, hex⟩ := id CX
  have hvc : G.vS.category = 1 := hG.2.2.2.2.2.1
  obtain ⟨k, hd, hn, hk⟩ := zb_put_ok ok
  subst hn
  unfold zo_put at K
  split at K
  · obtain ⟨hv, x, ev, K⟩ := K
    obtain ⟨fs, p1, p2, p3, e9⟩ := zpf_some ev
    refine zput CX hR hL hd hk hv ev (fun H1 locs1 g1 g2 g3 => ?_)
    subst e9
    exact K p e R s m args below meth c H1 locs1 ls CX (zlm_kp _ hl) g1 g3 (by rw [g2]; exact hsz) h1 h2
  · exact K.elim

