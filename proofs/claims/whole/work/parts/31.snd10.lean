def zOIL : List (String × Nat) := [("SlideZips", 1), ("SlideZips$Parser", 3), ("SlideZips$Drawer", 3), ("SlideZips$Zip", 3), ("SlideZips$Rule", 1), ("SlideZips$Book", 3), ("SlideZips$Sewing", 3), ("SlideZips$Dice", 1), ("SlideZipsModel", 3)]
theorem zOIL_ok : ∀ q ∈ zOIL, Cond.methodLink q.1 q.2 Lib.objectInit ∈ zW0 := List.forall_mem_cons.mpr ⟨(zW0_t (List.mem_of_getElem? (i := 28) (by decide +kernel)) rfl), List.forall_mem_cons.mpr ⟨(zW0_t (List.mem_of_getElem? (i := 36) (by decide +kernel)) rfl), List.forall_mem_cons.mpr ⟨(zW0_t (List.mem_of_getElem? (i := 42) (by decide +kernel)) rfl), List.forall_mem_cons.mpr ⟨(zW0_t (List.mem_of_getElem? (i := 49) (by decide +kernel)) rfl), List.forall_mem_cons.mpr ⟨(zW0_t (List.mem_of_getElem? (i := 78) (by decide +kernel)) rfl), List.forall_mem_cons.mpr ⟨(zW0_t (List.mem_of_getElem? (i := 162) (by decide +kernel)) rfl), List.forall_mem_cons.mpr ⟨(zW0_t (List.mem_of_getElem? (i := 190) (by decide +kernel)) rfl), List.forall_mem_cons.mpr ⟨(zW0_t (List.mem_of_getElem? (i := 200) (by decide +kernel)) rfl), List.forall_mem_cons.mpr ⟨(zW0_t (List.mem_of_getElem? (i := 1367) (by decide +kernel)) rfl), fun _ h => absurd h List.not_mem_nil⟩⟩⟩⟩⟩⟩⟩⟩⟩
theorem zOI1 : Cond.instanceMethod Lib.objectInit ∈ zW0 := (zW0_t (List.mem_of_getElem? (i := 29) (by decide +kernel)) rfl)
theorem zOI2 : Cond.code Lib.objectInit ⟨#[0xb1]⟩ 1 none ∈ zW0 := (zW0_t (List.mem_of_getElem? (i := 30) (by decide +kernel)) rfl)
def ziso (own : String) (k : Nat) : Bool := zOIL.any (fun q => decide (q.1 = own) && Nat.beq q.2 k)
theorem ziso_ok {own : String} {k : Nat} (h : ziso own k = true) : Cond.methodLink own k Lib.objectInit ∈ zW0 := by
  obtain ⟨q, hq, e⟩ := List.any_eq_true.mp h
  simp only [Bool.and_eq_true, decide_eq_true_eq] at e
  have e2 := Nat.eq_of_beq_eq_true e.2
  have := zOIL_ok q hq
  rw [e.1, e2] at this
  exact this
def zb_nop (own : String) (cc : ByteArray) (pc len r1 r2 r3 : Nat) (ts : List Nat) : Bool := match decode cc pc with
  | .ok (.invokespecial k, n) => decide (n = 3 ∧ len = 3) && ziso own k
  | _ => false
theorem zCP1 : Cond.methodLink "SlideZips$Book" 32 arraycopyName ∈ zW0 := (zW0_t (List.mem_of_getElem? (i := 268) (by decide +kernel)) rfl)
theorem zCP2 : Cond.native arraycopyName ∈ zW0 := (zW0_t (List.mem_of_getElem? (i := 270) (by decide +kernel)) rfl)
theorem zCP3 : Cond.static arraycopyName ∈ zW0 := (zW0_t (List.mem_of_getElem? (i := 269) (by decide +kernel)) rfl)
theorem zCP4 : Cond.initialized "java/lang/System" ∈ zW0 := (zW0_t (List.mem_of_getElem? (i := 22) (by decide +kernel)) rfl)
def zb_cpi (own : String) (cc : ByteArray) (pc len r1 r2 r3 : Nat) (ts : List Nat) : Bool := match decode cc pc with
  | .ok (.invokestatic k, n) => decide (n = 3 ∧ len = 3 ∧ own = "SlideZips$Book" ∧ k = 32)
  | _ => false
theorem zroomy {G : zG} {l : Launch} {d : Nat} {y : zY} {h0 : zH} {p : Program} {R : Room} {s : State} {m : MethodId} {args : Array Value} {meth : Method} {c : Code} (CX : zCX G l d y h0 p R s m args meth c) : 9 ≤ R.frames ∧ 360 ≤ R.locals := by
  obtain ⟨-, -, -, -, -, -, -, -, -, -, ⟨h1, h2, -⟩, -⟩ := CX
  unfold zfr at h1
  unfold zlo at h2
  exact ⟨by omega, by omega⟩
theorem zci_some {h h1 : zH} {a b : Nat} {sp dp n : Int32} (e : zci h a sp b dp n = some h1) : ∃ (n0 n1 : Nat) (f g : Nat → Int32), zcl h a = some (.inl (0, n0, .inl f)) ∧ zcl h b = some (.inl (0, n1, .inl g)) ∧ 1000 ≤ a ∧ 1000 ≤ b ∧ ¬ sp < 0 ∧ ¬ dp < 0 ∧ ¬ n < 0 ∧ sp.toNatClampNeg + n.toNatClampNeg ≤ n0 ∧ dp.toNatClampNeg + n.toNatClampNeg ≤ n1 ∧ h1 = zup h b (.inl (0, n1, .inl (va_cpy f g sp.toNatClampNeg dp.toNatClampNeg n.toNatClampNeg))) := by
  unfold zci at e
  split at e
  · rename_i n0 f n1 g q1 q2
    split at e
    · cases e
    · rename_i z
      simp only [not_or] at z
      cases e
      exact ⟨n0, n1, f, g, q1, q2, by omega, by omega, z.2.2.1, z.2.2.2.1, z.2.2.2.2.1, by omega, by omega, rfl⟩
  · cases e
theorem zcj_some {h h1 : zH} {a b : Nat} {sp dp n : Int32} (e : zcj h a sp b dp n = some h1) : ∃ (n0 n1 : Nat) (f g : Nat → Int64), zcl h a = some (.inl (1, n0, .inr (.inl f))) ∧ zcl h b = some (.inl (1, n1, .inr (.inl g))) ∧ 1000 ≤ a ∧ 1000 ≤ b ∧ ¬ sp < 0 ∧ ¬ dp < 0 ∧ ¬ n < 0 ∧ sp.toNatClampNeg + n.toNatClampNeg ≤ n0 ∧ dp.toNatClampNeg + n.toNatClampNeg ≤ n1 ∧ h1 = zup h b (.inl (1, n1, .inr (.inl (va_cpy f g sp.toNatClampNeg dp.toNatClampNeg n.toNatClampNeg)))) := by
  unfold zcj at e
  split at e
  · rename_i n0 f n1 g q1 q2
    split at e
    · cases e
    · rename_i z
      simp only [not_or] at z
      cases e
      exact ⟨n0, n1, f, g, q1, q2, by omega, by omega, z.2.2.1, z.2.2.2.1, z.2.2.2.2.1, by omega, by omega, rfl⟩
  · cases e
section ZH
variable {G : zG} {l : Launch} {d : Nat} {y : zY} {h0 : zH} {p : Program} {e : Env} {R : Room} {s : State} {m : MethodId} {args : Array Value} {below : List Frame} {meth : Method} {c : Code} {H : Heap} {locs : List Loc} {ls : Array Slot} {cells slots : Nat} {Q : State → Prop} {h h1 : zH} {pc a b k : Nat} {sp dp n : Int32} {rest : List Value}
theorem zcopyi (CX : zCX G l d y h0 p R s m args meth c) (hls : ls.size = y.nL) (hR : zRel G h H) (hL : ∀ z ∈ locs, G.sz ≤ z.base) (hown9 : y.nm.cls = "SlideZips$Book") (hd : decode y.cc pc = .ok (.invokestatic 32, 3)) (ev : zci h a sp b dp n = some h1) (hlo : (rest.map fun v => v.category).sum ≤ 20)
    (K : ∀ (H1 : Heap) (locs1 : List Loc), zRel G h1 H1 → H1.size = H.size → (∀ z ∈ locs1, G.sz ≤ z.base) → W p l e R s m args below meth c H1 locs1 cells slots Q (F0 m (pc + 3) ls rest)) : W p l e R s m args below meth c H locs cells slots Q (F0 m pc ls (.int n :: .int dp :: .ref (zad G b) :: .int sp :: .ref (zad G a) :: rest)) := by
  obtain ⟨hx, hb, hr, hlk, hml, hown, hts, hnm, hG, hR0, hRm, hex⟩ := id CX
  obtain ⟨hfr, hlr⟩ := zroomy CX
  rw [hown9] at hown
  obtain ⟨n0, n1, f, g, c1, c2, ha, hb9, h1', h2', h3', h4, h5, rfl⟩ := zci_some ev
  have nn : ∀ z : Int32, ¬ z < 0 → z.toInt = (z.toNatClampNeg : Int) := by
    intro z hz
    have hz0 : (0 : Int) ≤ z.toInt := by
      have := Int32.not_lt.mp hz
      simpa using Int32.le_iff_toInt_le.mp this
    show z.toInt = ((z.toInt.toNat : Nat) : Int)
    omega
  intro T hT X
  have hc0 : H[zad G a]? = some (vp_cell (G.ac 0) (n0, .inl f)) := hR.at ha c1
  have hc1 : H[zad G b]? = some (vp_cell (G.ac 0) (n1, .inl g)) := hR.at hb9 c2
  obtain ⟨-, k0, hk0, cm0, hkk0⟩ := (hG.2.2.1.2 0 _ rfl).1 n0 (fun j => .int (f j))
  obtain ⟨-, k1, hk1, cm1, hkk1⟩ := (hG.2.2.1.2 0 _ rfl).1 n1 (fun j => .int (g j))
  obtain ⟨vm', X', step⟩ := X.arraycopy hx hown (hts _ zCP1) (hts _ zCP2) (hts _ zCP3) (hts _ zCP4) (src := zad G a) (dst := zad G b) (cs := vp_cell (G.ac 0) (n0, .inl f)) (cd := vp_cell (G.ac 0) (n1, .inl g)) (srcPos := sp) (destPos := dp) (n := n) (by rw [hT]; exact hc0) (by rw [hT]; exact hc1)
    (fun _ h => by cases h) (fun _ h => by cases h) (fun h => by cases h) (fun h => by cases h) hk0 hk1 hkk0 hkk1 (by simp [refKind]) h1' h2' h3'
    (by rw [nn sp h1', nn n h3']; show ¬ _ > ((arrV (G.ac 0) n0 (fun j => .int (f j))).slots.size : Int); rw [arrV_size]; omega)
    (by rw [nn dp h2', nn n h3']; show ¬ _ > ((arrV (G.ac 0) n1 (fun j => .int (g j))).slots.size : Int); rw [arrV_size]; omega)
    (fun vm₁ _ i hi => by
      have e : (vp_cell (G.ac 0) (n0, .inl f)).slots.getD (sp.toNatClampNeg + i) .null = .int (f (sp.toNatClampNeg + i)) := by
        show (arrV (G.ac 0) n0 (fun j => .int (f j))).slots.getD _ _ = _
        rw [Array.getD_eq_getD_getElem?, arrV_read _ _ (by omega)]
        rfl
      refine ⟨?_, ?_⟩
      · rw [e]
        rfl
      · rw [e]
        exact trivial)
    (g := F0 m pc ls (.int n :: .int dp :: .ref (zad G b) :: .int sp :: .ref (zad G a) :: rest)) rfl (by rw [hml]; exact hls) (rest := rest) rfl (by rw [hb]; exact hd) (by omega) (by
      show 2 * 0 + (rest.map fun v => v.category).sum + (nativeFrameWords "java/lang/System" "arraycopy" 5 + 11) ≤ R.locals
      have : nativeFrameWords "java/lang/System" "arraycopy" 5 = 7 := by decide
      omega)
  have e1 : copied (vp_cell (G.ac 0) (n0, .inl f)) (vp_cell (G.ac 0) (n1, .inl g)) sp dp n = vp_cell (G.ac 0) (n1, .inl (va_cpy f g sp.toNatClampNeg dp.toNatClampNeg n.toNatClampNeg)) := va_copied (fun z => .int z) (G.ac 0) (G.ac 0) f g h4
  rw [e1] at X' step
  have hl : zad G b < H.size := (Array.getElem?_eq_some_iff.mp hc1).1
  generalize hV : vp_cell (G.ac 0) (n1, .inl (va_cpy f g sp.toNatClampNeg dp.toNatClampNeg n.toNatClampNeg)) = V at X' step
  have hheap : ((T.setVm vm').setCell (zad G b) V).heap = H.setIfInBounds (zad G b) V := by rw [← hT]; rfl
  have oq : ∀ q : Nat, q ≠ zad G b → (H.setIfInBounds (zad G b) V)[q]? = H[q]? := fun q hq => by simp [Array.getElem?_setIfInBounds, Ne.symm hq]
  obtain ⟨t, a1, b1⟩ := K (H.setIfInBounds (zad G b) V) _ (hR.up hb9 (by
      show (H.setIfInBounds (zad G b) V)[zad G b]? = some (vp_cell (G.ac 0) (n1, .inl (va_cpy f g sp.toNatClampNeg dp.toNatClampNeg n.toNatClampNeg)))
      rw [hV]
      simp [Array.getElem?_setIfInBounds, hl]) (by simp) oq) (by simp) (fun q hq => by
      rcases List.mem_append.mp hq with h | h
      · exact hL q h
      · obtain ⟨z, -, hz⟩ := List.mem_map.mp h
        rw [← hz]
        show G.sz ≤ zad G b
        rw [zad_hi hb9]
        omega) _ hheap X'
  exact ⟨t, step t a1, b1⟩
theorem zcopyj (CX : zCX G l d y h0 p R s m args meth c) (hls : ls.size = y.nL) (hR : zRel G h H) (hL : ∀ z ∈ locs, G.sz ≤ z.base) (hown9 : y.nm.cls = "SlideZips$Book") (hd : decode y.cc pc = .ok (.invokestatic 32, 3)) (ev : zcj h a sp b dp n = some h1) (hlo : (rest.map fun v => v.category).sum ≤ 20)
    (K : ∀ (H1 : Heap) (locs1 : List Loc), zRel G h1 H1 → H1.size = H.size → (∀ z ∈ locs1, G.sz ≤ z.base) → W p l e R s m args below meth c H1 locs1 cells slots Q (F0 m (pc + 3) ls rest)) : W p l e R s m args below meth c H locs cells slots Q (F0 m pc ls (.int n :: .int dp :: .ref (zad G b) :: .int sp :: .ref (zad G a) :: rest)) := by
  obtain ⟨hx, hb, hr, hlk, hml, hown, hts, hnm, hG, hR0, hRm, hex⟩ := id CX
  obtain ⟨hfr, hlr⟩ := zroomy CX
  rw [hown9] at hown
  obtain ⟨n0, n1, f, g, c1, c2, ha, hb9, h1', h2', h3', h4, h5, rfl⟩ := zcj_some ev
  have nn : ∀ z : Int32, ¬ z < 0 → z.toInt = (z.toNatClampNeg : Int) := by
    intro z hz
    have hz0 : (0 : Int) ≤ z.toInt := by
      have := Int32.not_lt.mp hz
      simpa using Int32.le_iff_toInt_le.mp this
    show z.toInt = ((z.toInt.toNat : Nat) : Int)
    omega
  intro T hT X
  have hc0 : H[zad G a]? = some (vp_cell (G.ac 1) (n0, .inr (.inl f))) := hR.at ha c1
  have hc1 : H[zad G b]? = some (vp_cell (G.ac 1) (n1, .inr (.inl g))) := hR.at hb9 c2
  obtain ⟨-, k0, hk0, cm0, hkk0⟩ := (hG.2.2.1.2 1 _ rfl).1 n0 (fun j => .long (f j))
  obtain ⟨-, k1, hk1, cm1, hkk1⟩ := (hG.2.2.1.2 1 _ rfl).1 n1 (fun j => .long (g j))
  obtain ⟨vm', X', step⟩ := X.arraycopy hx hown (hts _ zCP1) (hts _ zCP2) (hts _ zCP3) (hts _ zCP4) (src := zad G a) (dst := zad G b) (cs := vp_cell (G.ac 1) (n0, .inr (.inl f))) (cd := vp_cell (G.ac 1) (n1, .inr (.inl g))) (srcPos := sp) (destPos := dp) (n := n) (by rw [hT]; exact hc0) (by rw [hT]; exact hc1)
    (fun _ h => by cases h) (fun _ h => by cases h) (fun h => by cases h) (fun h => by cases h) hk0 hk1 hkk0 hkk1 (by simp [refKind]) h1' h2' h3'
    (by rw [nn sp h1', nn n h3']; show ¬ _ > ((arrV (G.ac 1) n0 (fun j => .long (f j))).slots.size : Int); rw [arrV_size]; omega)
    (by rw [nn dp h2', nn n h3']; show ¬ _ > ((arrV (G.ac 1) n1 (fun j => .long (g j))).slots.size : Int); rw [arrV_size]; omega)
    (fun vm₁ _ i hi => by
      have e : (vp_cell (G.ac 1) (n0, .inr (.inl f))).slots.getD (sp.toNatClampNeg + i) .null = .long (f (sp.toNatClampNeg + i)) := by
        show (arrV (G.ac 1) n0 (fun j => .long (f j))).slots.getD _ _ = _
        rw [Array.getD_eq_getD_getElem?, arrV_read _ _ (by omega)]
        rfl
      refine ⟨?_, ?_⟩
      · rw [e]
        rfl
      · rw [e]
        exact trivial)
    (g := F0 m pc ls (.int n :: .int dp :: .ref (zad G b) :: .int sp :: .ref (zad G a) :: rest)) rfl (by rw [hml]; exact hls) (rest := rest) rfl (by rw [hb]; exact hd) (by omega) (by
      show 2 * 0 + (rest.map fun v => v.category).sum + (nativeFrameWords "java/lang/System" "arraycopy" 5 + 11) ≤ R.locals
      have : nativeFrameWords "java/lang/System" "arraycopy" 5 = 7 := by decide
      omega)
  have e1 : copied (vp_cell (G.ac 1) (n0, .inr (.inl f))) (vp_cell (G.ac 1) (n1, .inr (.inl g))) sp dp n = vp_cell (G.ac 1) (n1, .inr (.inl (va_cpy f g sp.toNatClampNeg dp.toNatClampNeg n.toNatClampNeg))) := va_copied (fun z => .long z) (G.ac 1) (G.ac 1) f g h4
  rw [e1] at X' step
  have hl : zad G b < H.size := (Array.getElem?_eq_some_iff.mp hc1).1
  generalize hV : vp_cell (G.ac 1) (n1, .inr (.inl (va_cpy f g sp.toNatClampNeg dp.toNatClampNeg n.toNatClampNeg))) = V at X' step
  have hheap : ((T.setVm vm').setCell (zad G b) V).heap = H.setIfInBounds (zad G b) V := by rw [← hT]; rfl
  have oq : ∀ q : Nat, q ≠ zad G b → (H.setIfInBounds (zad G b) V)[q]? = H[q]? := fun q hq => by simp [Array.getElem?_setIfInBounds, Ne.symm hq]
  obtain ⟨t, a1, b1⟩ := K (H.setIfInBounds (zad G b) V) _ (hR.up hb9 (by
      show (H.setIfInBounds (zad G b) V)[zad G b]? = some (vp_cell (G.ac 1) (n1, .inr (.inl (va_cpy f g sp.toNatClampNeg dp.toNatClampNeg n.toNatClampNeg))))
      rw [hV]
      simp [Array.getElem?_setIfInBounds, hl]) (by simp) oq) (by simp) (fun q hq => by
      rcases List.mem_append.mp hq with h | h
      · exact hL q h
      · obtain ⟨z, -, hz⟩ := List.mem_map.mp h
        rw [← hz]
        show G.sz ≤ zad G b
        rw [zad_hi hb9]
        omega) _ hheap X'
  exact ⟨t, step t a1, b1⟩
end ZH
theorem zx_nop {G : zG} {l : Launch} {d : Nat} {y : zY} {E : Nat → List Value → zH → (zR → zH → Prop) → Prop} {M : zM} {Q : zR → zH → Prop} {h0 : zH} {pc len r1 r2 r3 : Nat} {ts : List Nat} {lv : List (Nat × Value)} {st : List Value} {h : zH} (ok : zb_nop y.nm.cls y.cc pc len r1 r2 r3 ts = true) (K : zo_nop E M Q (zP G l d y Q h0) pc len r1 r2 r3 ts lv st h) : zP G l d y Q h0 (pc, lv, st, h) := by
  intro p e R s m args below meth c H locs ls CX hl hR hL hsz h1 h2
  obtain ⟨hx, hb, hr, hlk, hml, hown, hts, hnm, hG, hR0, hRm, hex⟩ := id CX
  have hvc : G.vS.category = 1 := hG.2.2.2.2.2.1
  unfold zb_nop at ok
  split at ok
  · rename_i k n e1
    rw [Bool.and_eq_true] at ok
    obtain ⟨q1, q2⟩ := of_decide_eq_true ok.1
    subst q1
    subst q2
    obtain ⟨hfr, hlr⟩ := zroomy CX
    unfold zo_nop at K
    split at K
    · rename_i as st9 hp
      obtain ⟨⟨a, rfl⟩, hz, K⟩ := K
      obtain ⟨l9, z1, z2, z3⟩ := zpop_eq hp
      obtain rfl : l9 = [.ref a] := by
        rw [List.append_nil] at z3
        have := congrArg List.reverse z3
        simpa using this.symm
      subst z2
      have hz : zsz st9 ≤ 20 := Nat.le_of_ble_eq_true hz
      refine W.objInit hx hb hown (hts _ (ziso_ok ok.2)) (hts _ zOI1) (hts _ zOI2) rfl (by rw [hml]; exact hl.1) (a := zad G a) (rest := st9.map (zmv G)) rfl e1 (by omega) ?_ (K p e R s m args below meth c H locs ls CX (zlm_kp _ hl) hR hL hsz h1 h2)
      show 2 * 0 + ((st9.map (zmv G)).map fun v => v.category).sum + 12 ≤ R.locals
      rw [zsz_cat hvc]
      omega
    · exact K.elim
  · cases ok

theorem zx_cpi {G : zG} {l : Launch} {d : Nat} {y : zY} {E : Nat → List Value → zH → (zR → zH → Prop) → Prop} {M : zM} {Q : zR → zH → Prop} {h0 : zH} {pc len r1 r2 r3 : Nat} {ts : List Nat} {lv : List (Nat × Value)} {st : List Value} {h : zH} (ok : zb_cpi y.nm.cls y.cc pc len r1 r2 r3 ts = true) (K : zo_cpi E M Q (zP G l d y Q h0) pc len r1 r2 r3 ts lv st h) : zP G l d y Q h0 (pc, lv, st, h) := by
  intro p e R s m args below meth c H locs ls CX hl hR hL hsz h1 h2
  obtain ⟨hx, hb, hr, hlk, hml, hown, hts, hnm, hG, hR0, hRm, hex⟩ := id CX
  have hvc : G.vS.category = 1 := hG.2.2.2.2.2.1
  unfold zb_cpi at ok
  split at ok
  · rename_i k n e1
    obtain ⟨q1, q2, q3, q4⟩ := of_decide_eq_true ok
    subst q1
    subst q2
    subst q4
    unfold zo_cpi at K
    split at K
    · obtain ⟨hz, x9, ev, K⟩ := K
      have hz := Nat.le_of_ble_eq_true hz
      obtain ⟨n0, n1, f, g, -, -, -, -, -, -, -, -, -, e9⟩ := zci_some ev
      refine zcopyi CX hl.1 hR hL q3 e1 ev (by rw [zsz_cat hvc]; exact hz) (fun H1 locs1 g1 g2 g3 => ?_)
      subst e9
      exact K p e R s m args below meth c H1 locs1 ls CX (zlm_kp _ hl) g1 g3 (by rw [g2]; exact hsz) h1 h2
    · exact K.elim
  · cases ok

theorem zx_cpj {G : zG} {l : Launch} {d : Nat} {y : zY} {E : Nat → List Value → zH → (zR → zH → Prop) → Prop} {M : zM} {Q : zR → zH → Prop} {h0 : zH} {pc len r1 r2 r3 : Nat} {ts : List Nat} {lv : List (Nat × Value)} {st : List Value} {h : zH} (ok : zb_cpi y.nm.cls y.cc pc len r1 r2 r3 ts = true) (K : zo_cpj E M Q (zP G l d y Q h0) pc len r1 r2 r3 ts lv st h) : zP G l d y Q h0 (pc, lv, st, h) := by
  intro p e R s m args below meth c H locs ls CX hl hR hL hsz h1 h2
  obtain ⟨hx, hb, hr, hlk, hml, hown, hts, hnm, hG, hR0, hRm, hex⟩ := id CX
  have hvc : G.vS.category = 1 := hG.2.2.2.2.2.1
  unfold zb_cpi at ok
  split at ok
  · rename_i k n e1
    obtain ⟨q1, q2, q3, q4⟩ := of_decide_eq_true ok
    subst q1
    subst q2
    subst q4
    unfold zo_cpj at K
    split at K
    · obtain ⟨hz, x9, ev, K⟩ := K
      have hz := Nat.le_of_ble_eq_true hz
      obtain ⟨n0, n1, f, g, -, -, -, -, -, -, -, -, -, e9⟩ := zcj_some ev
      refine zcopyj CX hl.1 hR hL q3 e1 ev (by rw [zsz_cat hvc]; exact hz) (fun H1 locs1 g1 g2 g3 => ?_)
      subst e9
      exact K p e R s m args below meth c H1 locs1 ls CX (zlm_kp _ hl) g1 g3 (by rw [g2]; exact hsz) h1 h2
    · exact K.elim
  · cases ok
