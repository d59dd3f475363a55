/-- throws: two classes, thrown by one class alone -/
def zTK : Nat → Nat
  | 0 => 74
  | _ => 128
def zTC : Nat → Nat
  | 0 => 78
  | _ => 132
def zTN : List String := ["java/lang/RuntimeException", "java/lang/Exception"]
def zTI : Nat → Nat
  | 0 => 7
  | _ => 13
def zTB : Nat → ByteArray
  | 0 => Bundle.six
  | _ => prog_27_method_4_code
def zTA (x : Nat) : List Cond := zatX "SlideZips" (zTC x) (zNE x) (zTI x) (zTB x) zTN
theorem zT0a : ∀ w ∈ (zTA 0).filter goodWord, w ∈ zW0 := fun w h => zW0_in ((show ∀ w ∈ (zTA 0).filter goodWord, w ∈ lw_tbl by decide +kernel) w h) (List.mem_filter.mp h).2
theorem zT0b : ∀ w ∈ (zTA 0).filter (fun w => !goodWord w), w ∈ zNW := by decide +kernel
theorem zT0c : ∀ w ∈ Cond.classLink "SlideZips" 74 (zNE 0) :: Cond.initialized (zNE 0) :: zTA 0, vx_ot w = true := by decide +kernel
theorem zT0d : Cond.classLink "SlideZips" 74 (zNE 0) ∈ zW0 ∧ Cond.initialized (zNE 0) ∈ zW0 := ⟨zW0_in (by decide +kernel) rfl, zW0_in (by decide +kernel) rfl⟩
theorem zT1a : ∀ w ∈ (zTA 1).filter goodWord, w ∈ zW0 := fun w h => zW0_in ((show ∀ w ∈ (zTA 1).filter goodWord, w ∈ lw_tbl by decide +kernel) w h) (List.mem_filter.mp h).2
theorem zT1b : ∀ w ∈ (zTA 1).filter (fun w => !goodWord w), w ∈ zNW := by decide +kernel
theorem zT1c : ∀ w ∈ Cond.classLink "SlideZips" 128 (zNE 1) :: Cond.initialized (zNE 1) :: zTA 1, vx_ot w = true := by decide +kernel
theorem zT1d : Cond.classLink "SlideZips" 128 (zNE 1) ∈ zW0 ∧ Cond.initialized (zNE 1) ∈ zW0 := ⟨zW0_in (by decide +kernel) rfl, zW0_in (by decide +kernel) rfl⟩
theorem zTx {x : Nat} (hx : x < 2) {s : State} {args : Array Value} (hts : ∀ w ∈ zW0, w.before args s = true) (hn : ∀ w ∈ zNW, va_Nw w s) : ∀ w ∈ zTA x, w.before args s = true := match x, hx with
  | 0, _ => vx_hat (fun w h => hts w (zT0a w h)) zT0b (fun w h => va_Nw.use (zNW_on w h) (hn w h))
  | 1, _ => vx_hat (fun w h => hts w (zT1a w h)) zT1b (fun w h => va_Nw.use (zNW_on w h) (hn w h))
  | n + 2, h => absurd h (by omega)
theorem zTg {x : Nat} (hx : x < 2) : ∀ w ∈ Cond.classLink "SlideZips" (zTK x) (zNE x) :: Cond.initialized (zNE x) :: zTA x, vx_ot w = true := match x, hx with
  | 0, _ => zT0c
  | 1, _ => zT1c
  | n + 2, h => absurd h (by omega)
theorem zTl {x : Nat} (hx : x < 2) : Cond.classLink "SlideZips" (zTK x) (zNE x) ∈ zW0 ∧ Cond.initialized (zNE x) ∈ zW0 := match x, hx with
  | 0, _ => zT0d
  | 1, _ => zT1d
  | n + 2, h => absurd h (by omega)
theorem zTd {x : Nat} (hx : x < 2) : decode (zTB x) 0 = .ok (.aload_n 0, 1) ∧ decode (zTB x) 1 = .ok (.aload_n 1, 1) ∧ decode (zTB x) 2 = .ok (.invokespecial (zTI x), 3) ∧ decode (zTB x) 5 = .ok (.return_, 1) := match x, hx with
  | 0, _ => by decide +kernel
  | 1, _ => by decide +kernel
  | n + 2, h => absurd h (by omega)
theorem zTfit {x : Nat} (hx : x < 2) : Bundle.fit (zNE x) = true := match x, hx with
  | 0, _ => by decide +kernel
  | 1, _ => by decide +kernel
  | n + 2, h => absurd h (by omega)
theorem zTfn : ∀ n ∈ zTN, Bundle.fit n = true := by decide +kernel
def zism (own : String) (k : Nat) : Bool := zMSG.any (fun q => decide (q.1 = own) && Nat.beq q.2.1 k)
theorem zism_ok {own : String} {k : Nat} (h : zism own k = true) : ∃ tx, (own, k, tx) ∈ zMSG := by
  obtain ⟨q, hq, e⟩ := List.any_eq_true.mp h
  simp only [Bool.and_eq_true, decide_eq_true_eq] at e
  have e2 := Nat.eq_of_beq_eq_true e.2
  obtain ⟨a, b, c⟩ := q
  obtain rfl : a = own := e.1
  obtain rfl : b = k := e2
  exact ⟨c, hq⟩
def zb_throw (own : String) (hh : List (Nat × Nat × Nat × Nat)) (cc : ByteArray) (pc len r1 r2 r3 : Nat) (ts : List Nat) : Bool := decide (own = "SlideZips" ∧ hh = [] ∧ r1 < 2) && (match ts with
  | [_, i, _] => zism own i && (match r2 with
    | 0 => decide (decode cc pc = .ok (.new (zTK r1), 3) ∧ decode cc (pc + 3) = .ok (.dup, 1) ∧ decode cc (pc + 4) = .ok (.ldc i, 2) ∧ decode cc (pc + 6) = .ok (.invokespecial (zTC r1), 3) ∧ decode cc (pc + 9) = .ok (.athrow, 1))
    | _ => decide (decode cc pc = .ok (.new (zTK r1), 3) ∧ decode cc (pc + 3) = .ok (.dup, 1) ∧ decode cc (pc + 4) = .ok (.ldc_w i, 3) ∧ decode cc (pc + 7) = .ok (.invokespecial (zTC r1), 3) ∧ decode cc (pc + 10) = .ok (.athrow, 1)))
  | _ => false)
theorem znx_some {h h1 : zH} (e : znx h = some h1) : h.2.1 + 1 ≤ zNL ∧ h.2.2.1 + 6 ≤ zSL ∧ h1 = (0, h.2.1 + 1, h.2.2.1 + 6, h.2.2.2) := by
  unfold znx at e
  split at e
  · cases e
  · rename_i q
    simp only [not_or] at q
    cases e
    exact ⟨by omega, by omega, rfl⟩
/-- an exception that goes on to the caller -/
theorem zMQ_th {G : zG} {Q : zR → zH → Prop} {h0 h : zH} {below : List Frame} {s : State} {args : Array Value} {x : Nat} (hQ : Q (.inr x) h) (hx : x < 2) (h1 : h0.2.1 ≤ h.2.1) (h2 : h0.2.2.1 ≤ h.2.2.1) : ∀ t, vx_MQ below (fun _ _ _ _ => False) (fun E st t => E = zNE x ∧ zRel G h t.heap ∧ st.heap.size ≤ t.heap.size) args s (h.2.1 - h0.2.1) (h.2.2.1 - h0.2.2.1) (fun q => G.sz ≤ q) t → zMQ G Q h0 below s t := by
  rintro t ⟨o, a1, a2, a3⟩
  rcases a3 with ⟨a, -⟩ | ⟨q, rfl, E, ce, L, ⟨rfl, b1, b2⟩, c1, c2, c3, c4, c5, c6⟩
  · exact a.elim
  · exact ⟨_, a1, a2, Or.inr ⟨q, x, h, ce, L, rfl, hQ, b1, b2, h1, h2, c1, c2, c3, c4, c5, c6, hx⟩⟩
theorem zno_cover {c : Code} {hh : List (Nat × Nat × Nat × Nat)} (hex : c.exceptionTable.toList.map (fun h => (h.startPc, h.endPc, h.handlerPc, h.catchType)) = hh) (hn : hh = []) (pc : Nat) : ∀ x ∈ c.exceptionTable.toList, covers x pc = false := by
  rw [hn] at hex
  have := List.map_eq_nil_iff.mp hex
  intro x hx
  rw [this] at hx
  cases hx
theorem zx_throw {G : zG} {l : Launch} {d : Nat} {y : zY} {E : Nat → List Value → zH → (zR → zH → Prop) → Prop} {M : zM} {Q : zR → zH → Prop} {h0 : zH} {pc len r1 r2 r3 : Nat} {ts : List Nat} {lv : List (Nat × Value)} {st : List Value} {h : zH} (ok : zb_throw y.nm.cls y.hh y.cc pc len r1 r2 r3 ts = true) (K : zo_throw E M Q (zP G l d y Q h0) pc len r1 r2 r3 ts lv st h) : zP G l d y Q h0 (pc, lv, st, h) := by
  intro p e R s m args below meth c H locs ls CX hl hR hL hsz h1 h2
  obtain ⟨hx, hb, hr, hlk, hml, hown, hts, hnm, hG, hR0, hRm, hex⟩ := id CX
  have hvc : G.vS.category = 1 := hG.2.2.2.2.2.1
  unfold zb_throw at ok
  rw [Bool.and_eq_true] at ok
  obtain ⟨r11, r12, r13⟩ := of_decide_eq_true ok.1
  obtain ⟨hfr, hlr⟩ := zroomy CX
  have ok := ok.2
  unfold zo_throw at K
  obtain ⟨hz, x9, ev, K⟩ := K
  have hz := Nat.le_of_ble_eq_true hz
  obtain ⟨m1, m2, e9⟩ := znx_some ev
  have c1 : x9.2.1 = h.2.1 + 1 := by rw [e9]
  have c2 : x9.2.2.1 = h.2.2.1 + 6 := by rw [e9]
  have c3 : h.2.1 - h0.2.1 + 1 = h.2.1 + 1 - h0.2.1 := by dsimp only at h1; omega
  have c4 : h.2.2.1 - h0.2.2.1 + 6 = h.2.2.1 + 6 - h0.2.2.1 := by dsimp only at h2; omega
  have hRm1 := hRm.2.2.1
  have hRm2 := hRm.2.2.2
  split at ok
  · rename_i i0 i i2
    rw [Bool.and_eq_true] at ok
    obtain ⟨tx, hm⟩ := zism_ok ok.1
    obtain ⟨sa, hms⟩ := hG.2.2.2.2.2.2.2.2.2.2.2.2.2.1 _ hm
    split at ok
    · refine zW.mono (zMQ_th (args := args) K r13 (by show h0.2.1 ≤ x9.2.1; rw [c1]; exact Nat.le_succ_of_le h1) (by show h0.2.2.1 ≤ x9.2.2.1; rw [c2]; exact Nat.le_trans h2 (Nat.le_add_right _ _))) ?_
      obtain ⟨d0, d3, d4, d6, d9⟩ := of_decide_eq_true ok.2
      refine zthrowX (wide := false) (n4 := 2) (names := zTN) hx hb hG.1 (zTd r13).1 (zTd r13).2.1 (zTd r13).2.2.1 (zTd r13).2.2.2 (by rw [← r11]; exact hown) (zTfit r13) zTfn (hts _ (zTl r13).1) (hts _ (zTl r13).2) (by rw [← r11]; exact hms) (zTx r13 hts hG.2.2.2.2.2.2.2.2.2.2.2.2.2.2.2.2.2) (zTg r13) (hG.2.2.2.2.2.2.1.kept (zkp0 CX)) (hG.2.2.2.2.2.2.2.1.kept (zkp0 CX)) (hR0.S hR hsz hL) (by rw [hml]; exact hl.1) d0 d3 d4 rfl d6 d9 (zno_cover hex r12 _) (show 2 + 3 < R.frames by omega) (by rw [zsz_cat hvc]; show zsz st + (13 * (2 + 1) + 43) ≤ R.locals; omega) (by rw [c3]; omega) (by rw [c4]; omega) hlk (fun t _ g1 g2 => ⟨rfl, hR.junk g1 g2 (by rw [e9]) (by rw [c1]; exact m1) (by rw [c2]; exact m2) (by rw [e9]), Nat.le_trans hsz g1⟩) hL (by rw [c1]; dsimp only at h1 ⊢; omega) (by rw [c2]; dsimp only at h2 ⊢; omega)
    · refine zW.mono (zMQ_th (args := args) K r13 (by show h0.2.1 ≤ x9.2.1; rw [c1]; exact Nat.le_succ_of_le h1) (by show h0.2.2.1 ≤ x9.2.2.1; rw [c2]; exact Nat.le_trans h2 (Nat.le_add_right _ _))) ?_
      obtain ⟨d0, d3, d4, d7, d10⟩ := of_decide_eq_true ok.2
      refine zthrowX (wide := true) (n4 := 3) (names := zTN) hx hb hG.1 (zTd r13).1 (zTd r13).2.1 (zTd r13).2.2.1 (zTd r13).2.2.2 (by rw [← r11]; exact hown) (zTfit r13) zTfn (hts _ (zTl r13).1) (hts _ (zTl r13).2) (by rw [← r11]; exact hms) (zTx r13 hts hG.2.2.2.2.2.2.2.2.2.2.2.2.2.2.2.2.2) (zTg r13) (hG.2.2.2.2.2.2.1.kept (zkp0 CX)) (hG.2.2.2.2.2.2.2.1.kept (zkp0 CX)) (hR0.S hR hsz hL) (by rw [hml]; exact hl.1) d0 d3 d4 rfl d7 d10 (zno_cover hex r12 _) (show 2 + 3 < R.frames by omega) (by rw [zsz_cat hvc]; show zsz st + (13 * (2 + 1) + 43) ≤ R.locals; omega) (by rw [c3]; omega) (by rw [c4]; omega) hlk (fun t _ g1 g2 => ⟨rfl, hR.junk g1 g2 (by rw [e9]) (by rw [c1]; exact m1) (by rw [c2]; exact m2) (by rw [e9]), Nat.le_trans hsz g1⟩) hL (by rw [c1]; dsimp only at h1 ⊢; omega) (by rw [c2]; dsimp only at h2 ⊢; omega)
  · cases ok
