/-- the entries that hold texts: class, entry, number, text; and those of throws alone -/
def zSTR : List (String × Nat × Nat × String) := [("SlideZips$Parser", 78, 0, ";()+-*/<="), ("SlideZips$Parser", 99, 2, "zip"), ("SlideZips$Parser", 148, 12, "to"), ("SlideZips$Parser", 109, 4, "coil"), ("SlideZips$Parser", 111, 6, "strain"), ("SlideZips$Parser", 116, 8, "pulls"), ("SlideZips$Parser", 201, 18, "not"), ("SlideZips$Parser", 218, 20, "place"), ("SlideZips$Parser", 220, 22, "hold"), ("SlideZips$Parser", 222, 24, "day"), ("SlideZips$Parser", 224, 26, "open"), ("SlideZips$Parser", 226, 28, "bursts"), ("SlideZips$Parser", 199, 16, "and"), ("SlideZips$Parser", 189, 14, "or"), ("SlideZips$Parser", 121, 10, "wears"), ("SlideZipsModel", 11, 30, "zip"), ("SlideZipsModel", 13, 32, "coil"), ("SlideZipsModel", 19, 34, "strain"), ("SlideZipsModel", 21, 36, "place"), ("SlideZipsModel", 23, 38, "hold"), ("SlideZipsModel", 25, 40, "day"), ("SlideZipsModel", 27, 42, "open"), ("SlideZipsModel", 32, 44, "bursts"), ("SlideZipsModel", 284, 54, "pulls"), ("SlideZipsModel", 286, 56, "wears"), ("SlideZipsModel", 264, 46, "not"), ("SlideZipsModel", 272, 48, "and"), ("SlideZipsModel", 277, 50, "or"), ("SlideZipsModel", 279, 52, "to")]
def zMSG : List (String × Nat × String) := [("SlideZips", 76, "the tape has not so many bytes"), ("SlideZips", 396, "no such zip"), ("SlideZips", 130, "no such what"), ("SlideZips", 401, "no such place"), ("SlideZips", 403, "no such tape"), ("SlideZips", 405, "a number out of its range"), ("SlideZips", 360, "both are one")]
def zA (G : zG) : Nat → Prop := fun q => G.sz ≤ q
/-- the words that every method leans on -/
noncomputable def zW0 : List Cond := lw_tbl.filter goodWord
theorem zW0_in {w : Cond} (h : w ∈ lw_tbl) (hg : goodWord w = true) : w ∈ zW0 := List.mem_filter.mpr ⟨h, hg⟩
theorem zW0_t {w : Cond} (h : w ∈ tables_1) (hg : goodWord w = true) : w ∈ zW0 := zW0_in (List.mem_append_right _ h) hg
theorem zW0_good : GoodIn lw_tbl zW0 := fun w h => ⟨(List.mem_filter.mp h).1, good_of_word (List.mem_filter.mp h).2⟩
theorem zW0_ws {s : State} {args : Array Value} (ht : ∀ w ∈ zW0, w.before args s = true) : ∀ w ∈ zW0, ∀ (a' : Array Value) (U : State), s.WarmedH U.vm → w.before a' U = true := fun w hw a' U hW => word_at hW (zW0_good w hw).2 (ht w hw)
def ztys (G : zG) : List (ClassId × FieldType) := [(G.ac 0, .int), (G.ac 1, .long), (G.ac 2, .byte), (G.ac 3, .object "SlideZips$Zip"), (G.ac 4, .object "java/lang/String")]
def zNE : Nat → String
  | 0 => "java/lang/IllegalArgumentException"
  | _ => "java/util/NoSuchElementException"
/-- words on the tables that hold on, but not by the common law -/
def zNW : List Cond := [.declares (Bundle.initS "java/lang/RuntimeException"), .declares (Bundle.initS "java/lang/Exception"), .declares (Bundle.initS "java/lang/Throwable"), .castable (zNE 0) (zNE 0), .castable (zNE 1) (zNE 1), .methodLinkNest "SlideZips$Drawer" 17 ⟨"SlideZips$Zip", "<init>", "()V"⟩ "SlideZips", .methodLinkNest "SlideZips" 47 ⟨"SlideZips$Zip", "<init>", "()V"⟩ "SlideZips", .methodLinkNest "SlideZips" 61 ⟨"SlideZips$Dice", "<init>", "()V"⟩ "SlideZips"]
theorem zNW_warm {s U : State} (hW : s.WarmedH U.vm) : (∀ w ∈ zNW, va_Nw w s) → ∀ w ∈ zNW, va_Nw w U := by
  intro h
  have a := fun w hw => h w hw
  unfold zNW at h ⊢
  simp only [List.forall_mem_cons] at h ⊢
  obtain ⟨h1, h2, h3, h4, h5, h6, h7, h8, -⟩ := h
  exact ⟨h1.warmD hW, h2.warmD hW, h3.warmD hW, h4.warmC hW, h5.warmC hW, h6.warmM hW, h7.warmM hW, h8.warmM hW, fun _ h => absurd h List.not_mem_nil⟩
theorem zNW_on : ∀ w ∈ zNW, w.onTables = true := by decide +kernel
/-- what the tables and the heap at the law's entry give, at any state of the law -/
def zGl (G : zG) (l : Launch) (s : State) : Prop :=
  l.stackTraces = false ∧ G.H0.size = G.sz ∧ va_K G.D vwCl (ztys G) s ∧ va_Z "java/lang/String" "COMPACT_STRINGS" "Z" (.int 1) (zA G) s G.H0 ∧
  va_Z "jdk/internal/util/Preconditions" "SIOOBE_FORMATTER" "Ljava/util/function/BiFunction;" G.vS (zA G) s G.H0 ∧ G.vS.category = 1 ∧
  vx_Zq Bundle.tN "UNASSIGNED_STACK" Bundle.steD (zA G) s G.H0 ∧ vx_Zq Bundle.tN "SUPPRESSED_SENTINEL" Bundle.listD (zA G) s G.H0 ∧
  (∀ k : Nat, k < 29 → va_O "java/lang/String" (G.ra (2 * k)) (zA G) s G.H0 ∧ va_OF "java/lang/String" "coder" "B" (.int 0) (G.ra (2 * k)) (zA G) s G.H0 ∧ va_OF "java/lang/String" "value" "[B" (.ref (G.ra (2 * k + 1))) (G.ra (2 * k)) (zA G) s G.H0 ∧ va_T .byte (G.ra (2 * k + 1)) (ztx k).length (fun j => .int (nI ((ztx k).getD j 0))) (zA G) s G.H0) ∧
  va_X (G.ra 997) G.sL G.xs s G.H0 ∧ G.ra 997 < G.sz ∧ G.sL < 100000 ∧
  (∀ q ∈ zSTR, vk_R q.1 q.2.1 q.2.2.2 (G.ra q.2.2.1) s) ∧ (∀ q ∈ zMSG, ∃ a, vk_R q.1 q.2.1 q.2.2 a s) ∧
  (va_Nc "java/lang/IllegalArgumentException" "java/util/NoSuchElementException" s ∧ va_Nc "java/util/NoSuchElementException" "java/lang/IllegalArgumentException" s) ∧ va_AO "SlideZips$Zip" s ∧ va_AO "java/lang/String" s ∧ ∀ w ∈ zNW, va_Nw w s
theorem zGl.moved {G : zG} {l : Launch} {s U : State} (hW : s.WarmedH U.vm) (h : zGl G l s) : zGl G l U := by
  have hvm := hW.alike
  obtain ⟨h1, h2, h3, h4, h5, h6, h7, h8, h9, h10, h11, h12, h13, h14, ⟨h15, h16⟩, h17, h18, h19⟩ := h
  refine ⟨h1, h2, h3.moved hvm, h4.moved hvm, h5.moved hvm, h6, h7.moved hvm, h8.moved hvm, fun k hk => ?_, h10.moved hvm, h11, h12, fun q hq => (h13 q hq).warm hW, fun q hq => ?_, ⟨h15.moved hvm, h16.moved hvm⟩, va_AO.moved hvm h17, va_AO.moved hvm h18, zNW_warm hW h19⟩
  · obtain ⟨a, b, c, d⟩ := h9 k hk
    exact ⟨a.moved hvm, b.moved hvm, c.moved hvm, d.moved hvm⟩
  · obtain ⟨a, ha⟩ := h14 q hq
    exact ⟨a, ha.warm hW⟩
theorem zGl.calling {G : zG} {l : Launch} {U : State} (g : JFrame) (mk : MethodId) (a : Array Value) (h : zGl G l U) : zGl G l (U.calling g mk a) := h.moved (State.WarmedH.refl U)
/-- a method, as the claim has it: its name, its class, its bytes, how many locals, what it answers, its own catches -/
abbrev zY : Type := MethodName × ByteArray × Nat × Option FieldType × List (Nat × Nat × Nat × Nat)
abbrev zY.nm (y : zY) : MethodName := y.1
abbrev zY.cc (y : zY) : ByteArray := y.2.1
abbrev zY.nL (y : zY) : Nat := y.2.2.1
abbrev zY.rt (y : zY) : Option FieldType := y.2.2.2.1
abbrev zY.hh (y : zY) : List (Nat × Nat × Nat × Nat) := y.2.2.2.2
def zfr (d : Nat) : Nat := d + 8
def zlo (d : Nat) : Nat := 60 * d + 300
def zroom (d : Nat) (h : zH) : Room := { frames := zfr d, cells := zNL - h.2.1, slots := zSL - h.2.2.1, locals := zlo d }
/-- how a call ends -/
def zQ (G : zG) (Q : zR → zH → Prop) (h0 : zH) (st : State) (o : Outcome) (t : State) : Prop :=
  (∃ (v : Option Value) (h : zH) (L : List Loc), o = .returned (v.map (zmv G)) ∧ Q (.inl v) h ∧ zRel G h t.heap ∧ st.heap.size ≤ t.heap.size ∧ h0.2.1 ≤ h.2.1 ∧ h0.2.2.1 ≤ h.2.2.1 ∧ FrameEnd st o t L (h.2.1 - h0.2.1) (h.2.2.1 - h0.2.2.1) ∧ ∀ z ∈ L, G.sz ≤ z.base) ∨
  (∃ (q : Addr) (x : Nat) (h : zH) (ce : Cell) (L : List Loc), o = .threw q ∧ Q (.inr x) h ∧ zRel G h t.heap ∧ st.heap.size ≤ t.heap.size ∧ h0.2.1 ≤ h.2.1 ∧ h0.2.2.1 ≤ h.2.2.1 ∧ t.heap[q]? = some ce ∧ ce.vm = .none ∧ st.vm.findClass (zNE x) = some ce.cls ∧ st.WarmedH t.vm ∧ st.sameButNew ({ t with vm := st.vm } : State) L (h.2.1 - h0.2.1) (h.2.2.1 - h0.2.2.1) ∧ (∀ z ∈ L, G.sz ≤ z.base) ∧ x < 2)
def zMQ (G : zG) (Q : zR → zH → Prop) (h0 : zH) (below : List Frame) (s : State) : State → Prop := fun t => ∃ o, t.status = .running ∧ Ended t below o ∧ zQ G Q h0 s o t
/-- where a method's body stands -/
def zCX (G : zG) (l : Launch) (d : Nat) (y : zY) (h0 : zH) (p : Program) (R : Room) (s : State) (m : MethodId) (args : Array Value) (meth : Method) (c : Code) : Prop :=
  p.tables.exec = Jvm.exec ∧ c.code = y.cc ∧ meth.sig.returnType = y.rt ∧ meth.locks = false ∧ c.maxLocals = y.nL ∧ s.vm.findClass y.nm.cls = some m.cls ∧ (∀ w ∈ zW0, w.before args s = true) ∧ meth.name = y.nm.name ∧ zGl G l s ∧ zRel G h0 s.heap ∧
  (zfr (d + 1) ≤ R.frames ∧ zlo (d + 1) ≤ R.locals ∧ zNL - h0.2.1 ≤ R.cells ∧ zSL - h0.2.2.1 ≤ R.slots) ∧ c.exceptionTable.toList.map (fun h => (h.startPc, h.endPc, h.handlerPc, h.catchType)) = y.hh
/-- what a frame of the small machine says of the machine -/
def zP (G : zG) (l : Launch) (d : Nat) (y : zY) (Q : zR → zH → Prop) (h0 : zH) (f : zF) : Prop :=
  ∀ (p : Program) (e : Env) (R : Room) (s : State) (m : MethodId) (args : Array Value) (below : List Frame) (meth : Method) (c : Code) (H : Heap) (locs : List Loc) (ls : Array Slot),
    zCX G l d y h0 p R s m args meth c → lv_has ls y.nL (zlm G f.2.1) → zRel G f.2.2.2 H → (∀ z ∈ locs, G.sz ≤ z.base) → s.heap.size ≤ H.size → h0.2.1 ≤ f.2.2.2.2.1 → h0.2.2.1 ≤ f.2.2.2.2.2.1 →
    W p l e R s m args below meth c H locs (f.2.2.2.2.1 - h0.2.1) (f.2.2.2.2.2.1 - h0.2.2.1) (zMQ G Q h0 below s) (F0 m f.1 ls (f.2.2.1.map (zmv G)))
theorem zRel.S {G : zG} {h0 h : zH} {H1 H : Heap} {locs : List Loc} (a : zRel G h0 H1) (b : zRel G h H) (hs : H1.size ≤ H.size) (hL : ∀ z ∈ locs, G.sz ≤ z.base) : va_S (zA G) H1 H locs := by
  refine ⟨hs, fun q hq hA => ?_, hL⟩
  have hA : ¬ G.sz ≤ q := hA
  rw [b.2.2.2.2.1 q (by omega), a.2.2.2.2.1 q (by omega)]
theorem zRel.at {G : zG} {h : zH} {H : Heap} (r : zRel G h H) {a : Nat} {x : zC} (ha : 1000 ≤ a) (hx : zcl h a = some x) : va_at G.D vwCl (zad G a, zme G x) H := r.2.2.2.2.2.1 a x ha hx
theorem zRel.lo {G : zG} {h : zH} {H : Heap} (r : zRel G h H) {a : Nat} {x : zC} (ha : a < 1000) (hx : zcl h a = some x) : zsc G a = some x := (r.2.2.2.2.2.2 a ha).symm.trans hx
theorem zRel.below {G : zG} {h : zH} {H : Heap} (r : zRel G h H) {q : Nat} (hq : q < G.sz) : H[q]? = G.H0[q]? := r.2.2.2.2.1 q hq
/-- one cell is written -/
theorem zRel.up {G : zG} {h : zH} {H H1 : Heap} (r : zRel G h H) {a : Nat} {x : zC} (ha : 1000 ≤ a) (hx : va_at G.D vwCl (zad G a, zme G x) H1) (hz : H1.size = H.size) (ho : ∀ q : Nat, q ≠ zad G a → H1[q]? = H[q]?) : zRel G (zup h a x) H1 := by
  obtain ⟨r1, r2, r3, r4, r5, r6, r7⟩ := r
  have hA := zad_hi (G := G) ha
  refine ⟨r1, r2, by rw [hz]; exact r3, by rw [hz]; exact r4, fun q hq => ?_, fun i y hi hy => ?_, fun i hi => ?_⟩
  · rw [ho q (by rw [hA]; omega)]
    exact r5 q hq
  · by_cases e : i = a
    · subst e
      have hy : some x = some y := by
        have : (zup h i x).2.2.2 i = some x := by unfold zup va_up; simp
        rw [this] at hy
        exact hy
      cases hy
      exact hx
    · have hy : h.2.2.2 i = some y := by
        have : (zup h a x).2.2.2 i = h.2.2.2 i := by unfold zup va_up; simp [e]
        rw [this] at hy
        exact hy
      exact (r6 i y hi hy).kept (ho _ (fun z => e (zad_inj hi ha z)))
  · have : (zup h a x).2.2.2 i = h.2.2.2 i := by unfold zup va_up; simp [show ¬ i = a by omega]
    rw [this]
    exact r7 i hi
/-- one cell is made -/
theorem zRel.push {G : zG} {h : zH} {H H1 : Heap} (r : zRel G h H) {n : Nat} {x : zC} (h0 : ¬ h.1 = 0) (hc : h.2.1 + 1 ≤ zNL) (hs : h.2.2.1 + n ≤ zSL) (hx : va_at G.D vwCl (H.size, zme G x) H1) (hz : H1.size = H.size + 1) (ho : ∀ q : Nat, q < H.size → H1[q]? = H[q]?) : zRel G (h.1 + 1, h.2.1 + 1, h.2.2.1 + n, va_up h.2.2.2 (999 + h.1) (some x)) H1 ∧ zad G (999 + h.1) = H.size := by
  obtain ⟨r1, r2, r3, r4, r5, r6, r7⟩ := r
  have hN : H.size + 1 = G.sz + h.1 := by rcases r4 with r4 | r4; exact absurd r4 h0; exact r4
  have hA : zad G (999 + h.1) = H.size := by rw [zad_hi (by omega)]; omega
  refine ⟨⟨hc, hs, by rw [hz]; omega, Or.inr (by rw [hz]; show H.size + 1 + 1 = G.sz + (h.1 + 1); omega), fun q hq => ?_, fun i y hi hy => ?_, fun i hi => ?_⟩, hA⟩
  · rw [ho q (by omega)]
    exact r5 q hq
  · by_cases e : i = 999 + h.1
    · subst e
      have hy : some x = some y := by
        have : va_up h.2.2.2 (999 + h.1) (some x) (999 + h.1) = some x := by unfold va_up; simp
        exact this.symm.trans hy
      cases hy
      rw [hA]
      exact hx
    · have hy : h.2.2.2 i = some y := by
        have : va_up h.2.2.2 (999 + h.1) (some x) i = h.2.2.2 i := by unfold va_up; simp [e]
        exact this.symm.trans hy
      exact (r6 i y hi hy).kept (ho _ (r6 i y hi hy).lt)
  · have : va_up h.2.2.2 (999 + h.1) (some x) i = h.2.2.2 i := by unfold va_up; simp [show ¬ i = 999 + h.1 by omega]
    exact this.trans (r7 i hi)
/-- cells that nobody speaks of are made -/
theorem zRel.junk {G : zG} {h : zH} {H H1 : Heap} (r : zRel G h H) {h' : zH} (hz : H.size ≤ H1.size) (ho : ∀ q : Nat, q < H.size → H1[q]? = H[q]?) (e1 : h'.1 = 0) (e2 : h'.2.1 ≤ zNL) (e3 : h'.2.2.1 ≤ zSL) (e4 : h'.2.2.2 = h.2.2.2) : zRel G h' H1 := by
  obtain ⟨r1, r2, r3, r4, r5, r6, r7⟩ := r
  refine ⟨e2, e3, Nat.le_trans r3 hz, Or.inl e1, fun q hq => ?_, fun i y hi hy => ?_, fun i hi => ?_⟩
  · rw [ho q (by omega)]
    exact r5 q hq
  · rw [e4] at hy
    exact (r6 i y hi hy).kept (ho _ (r6 i y hi hy).lt)
  · rw [e4]
    exact r7 i hi
theorem zW.mono {p : Program} {l : Launch} {e : Env} {R : Room} {s : State} {m : MethodId} {args : Array Value} {below : List Frame} {meth : Method} {c : Code} {H : Heap} {locs : List Loc} {cells slots : Nat} {Q Q' : State → Prop} {g : JFrame} (h : ∀ t, Q t → Q' t) (k : W p l e R s m args below meth c H locs cells slots Q g) : W p l e R s m args below meth c H locs cells slots Q' g := fun T hT X => by
  obtain ⟨t, a, b⟩ := k T hT X
  exact ⟨t, a, h t b⟩
