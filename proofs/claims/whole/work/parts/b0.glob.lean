/-! THE START: what the claim gives at the law's entry -/
noncomputable def zfl : List Jvm.Cond := flatC (Jvm.Cond.and given_1 narrow_1)
def ztm : Nat → Term
  | 0 => .string "SlideZips$Parser" 78
  | 1 => .string "SlideZips$Parser" 99
  | 2 => .string "SlideZips$Parser" 109
  | 3 => .string "SlideZips$Parser" 111
  | 4 => .string "SlideZips$Parser" 116
  | 5 => .string "SlideZips$Parser" 121
  | 6 => .string "SlideZips$Parser" 148
  | 7 => .string "SlideZips$Parser" 189
  | 8 => .string "SlideZips$Parser" 199
  | 9 => .string "SlideZips$Parser" 201
  | 10 => .string "SlideZips$Parser" 218
  | 11 => .string "SlideZips$Parser" 220
  | 12 => .string "SlideZips$Parser" 222
  | 13 => .string "SlideZips$Parser" 224
  | 14 => .string "SlideZips$Parser" 226
  | 15 => .string "SlideZipsModel" 11
  | 16 => .string "SlideZipsModel" 13
  | 17 => .string "SlideZipsModel" 19
  | 18 => .string "SlideZipsModel" 21
  | 19 => .string "SlideZipsModel" 23
  | 20 => .string "SlideZipsModel" 25
  | 21 => .string "SlideZipsModel" 27
  | 22 => .string "SlideZipsModel" 32
  | 23 => .string "SlideZipsModel" 264
  | 24 => .string "SlideZipsModel" 272
  | 25 => .string "SlideZipsModel" 277
  | 26 => .string "SlideZipsModel" 279
  | 27 => .string "SlideZipsModel" 284
  | 28 => .string "SlideZipsModel" 286
  | _ => .string "" 0
def zcd (t : Term) (bs : List Nat) : List Jvm.Cond := .exactly t "java/lang/String" :: .eq (.field t "java/lang/String" "coder" "B") (.int 0) :: .arrayOf (.field t "java/lang/String" "value" "[B") .byte :: .eq (.length (.field t "java/lang/String" "value" "[B")) (.int (Int32.ofNat bs.length)) :: (List.range bs.length).map (fun j => .eq (.elem (.field t "java/lang/String" "value" "[B") (.int (Int32.ofNat j))) (.int (nI (bs.getD j 0))))
theorem zcd_0 : (zfl.drop 65).take 13 = zcd (ztm 0) (ztx 0) := by decide +kernel
theorem zcd_1 : (zfl.drop 78).take 7 = zcd (ztm 1) (ztx 1) := by decide +kernel
theorem zcd_2 : (zfl.drop 91).take 8 = zcd (ztm 2) (ztx 2) := by decide +kernel
theorem zcd_3 : (zfl.drop 99).take 10 = zcd (ztm 3) (ztx 3) := by decide +kernel
theorem zcd_4 : (zfl.drop 109).take 9 = zcd (ztm 4) (ztx 4) := by decide +kernel
theorem zcd_5 : (zfl.drop 180).take 9 = zcd (ztm 5) (ztx 5) := by decide +kernel
theorem zcd_6 : (zfl.drop 85).take 6 = zcd (ztm 6) (ztx 6) := by decide +kernel
theorem zcd_7 : (zfl.drop 174).take 6 = zcd (ztm 7) (ztx 7) := by decide +kernel
theorem zcd_8 : (zfl.drop 167).take 7 = zcd (ztm 8) (ztx 8) := by decide +kernel
theorem zcd_9 : (zfl.drop 118).take 7 = zcd (ztm 9) (ztx 9) := by decide +kernel
theorem zcd_10 : (zfl.drop 125).take 9 = zcd (ztm 10) (ztx 10) := by decide +kernel
theorem zcd_11 : (zfl.drop 134).take 8 = zcd (ztm 11) (ztx 11) := by decide +kernel
theorem zcd_12 : (zfl.drop 142).take 7 = zcd (ztm 12) (ztx 12) := by decide +kernel
theorem zcd_13 : (zfl.drop 149).take 8 = zcd (ztm 13) (ztx 13) := by decide +kernel
theorem zcd_14 : (zfl.drop 157).take 10 = zcd (ztm 14) (ztx 14) := by decide +kernel
theorem zcd_15 : (zfl.drop 298).take 7 = zcd (ztm 15) (ztx 15) := by decide +kernel
theorem zcd_16 : (zfl.drop 306).take 8 = zcd (ztm 16) (ztx 16) := by decide +kernel
theorem zcd_17 : (zfl.drop 315).take 10 = zcd (ztm 17) (ztx 17) := by decide +kernel
theorem zcd_18 : (zfl.drop 326).take 9 = zcd (ztm 18) (ztx 18) := by decide +kernel
theorem zcd_19 : (zfl.drop 336).take 8 = zcd (ztm 19) (ztx 19) := by decide +kernel
theorem zcd_20 : (zfl.drop 345).take 7 = zcd (ztm 20) (ztx 20) := by decide +kernel
theorem zcd_21 : (zfl.drop 353).take 8 = zcd (ztm 21) (ztx 21) := by decide +kernel
theorem zcd_22 : (zfl.drop 362).take 10 = zcd (ztm 22) (ztx 22) := by decide +kernel
theorem zcd_23 : (zfl.drop 393).take 7 = zcd (ztm 23) (ztx 23) := by decide +kernel
theorem zcd_24 : (zfl.drop 401).take 7 = zcd (ztm 24) (ztx 24) := by decide +kernel
theorem zcd_25 : (zfl.drop 409).take 6 = zcd (ztm 25) (ztx 25) := by decide +kernel
theorem zcd_26 : (zfl.drop 416).take 6 = zcd (ztm 26) (ztx 26) := by decide +kernel
theorem zcd_27 : (zfl.drop 373).take 9 = zcd (ztm 27) (ztx 27) := by decide +kernel
theorem zcd_28 : (zfl.drop 383).take 9 = zcd (ztm 28) (ztx 28) := by decide +kernel
theorem zcd_all : ∀ k : Nat, k < 29 → ∃ p n : Nat, (zfl.drop p).take n = zcd (ztm k) (ztx k)
  | 0, _ => ⟨_, _, zcd_0⟩
  | 1, _ => ⟨_, _, zcd_1⟩
  | 2, _ => ⟨_, _, zcd_2⟩
  | 3, _ => ⟨_, _, zcd_3⟩
  | 4, _ => ⟨_, _, zcd_4⟩
  | 5, _ => ⟨_, _, zcd_5⟩
  | 6, _ => ⟨_, _, zcd_6⟩
  | 7, _ => ⟨_, _, zcd_7⟩
  | 8, _ => ⟨_, _, zcd_8⟩
  | 9, _ => ⟨_, _, zcd_9⟩
  | 10, _ => ⟨_, _, zcd_10⟩
  | 11, _ => ⟨_, _, zcd_11⟩
  | 12, _ => ⟨_, _, zcd_12⟩
  | 13, _ => ⟨_, _, zcd_13⟩
  | 14, _ => ⟨_, _, zcd_14⟩
  | 15, _ => ⟨_, _, zcd_15⟩
  | 16, _ => ⟨_, _, zcd_16⟩
  | 17, _ => ⟨_, _, zcd_17⟩
  | 18, _ => ⟨_, _, zcd_18⟩
  | 19, _ => ⟨_, _, zcd_19⟩
  | 20, _ => ⟨_, _, zcd_20⟩
  | 21, _ => ⟨_, _, zcd_21⟩
  | 22, _ => ⟨_, _, zcd_22⟩
  | 23, _ => ⟨_, _, zcd_23⟩
  | 24, _ => ⟨_, _, zcd_24⟩
  | 25, _ => ⟨_, _, zcd_25⟩
  | 26, _ => ⟨_, _, zcd_26⟩
  | 27, _ => ⟨_, _, zcd_27⟩
  | 28, _ => ⟨_, _, zcd_28⟩
  | _ + 29, h => absurd h (by omega)
theorem ztx_len (k : Nat) : (ztx k).length < 2 ^ 31 := by
  unfold ztx
  split <;> decide
theorem ztext {args : Array Value} {s : State} {A : Nat → Prop} {t : Term} {bs : List Nat} {p n : Nat} (hg : ∀ c ∈ zfl, c.before args s = true) (hc : (zfl.drop p).take n = zcd t bs) (hl : bs.length < 2 ^ 31) (hA : ∀ a : Nat, a < s.heap.size → ¬ A a) :
    ∃ q : Nat × Nat, t.eval args s none [] s = some (.ref q.1) ∧ va_O "java/lang/String" q.1 A s s.heap ∧ va_OF "java/lang/String" "coder" "B" (.int 0) q.1 A s s.heap ∧ va_OF "java/lang/String" "value" "[B" (.ref q.2) q.1 A s s.heap ∧ va_T .byte q.2 bs.length (fun j => .int (nI (bs.getD j 0))) A s s.heap := by
  have hm : ∀ w ∈ zcd t bs, w.before args s = true := fun w hw => hg w (List.mem_of_mem_drop (List.mem_of_mem_take (by rw [hc]; exact hw)))
  have hex := hm (.exactly t "java/lang/String") List.mem_cons_self
  have hco := hm (.eq (.field t "java/lang/String" "coder" "B") (.int 0)) (List.mem_cons_of_mem _ List.mem_cons_self)
  have har := hm (.arrayOf (.field t "java/lang/String" "value" "[B") .byte) (List.mem_cons_of_mem _ (List.mem_cons_of_mem _ List.mem_cons_self))
  have hle := hm (.eq (.length (.field t "java/lang/String" "value" "[B")) (.int (Int32.ofNat bs.length))) (List.mem_cons_of_mem _ (List.mem_cons_of_mem _ (List.mem_cons_of_mem _ List.mem_cons_self)))
  have hel : ∀ j : Nat, j < bs.length → (Cond.eq (.elem (.field t "java/lang/String" "value" "[B") (.int (Int32.ofNat j))) (.int (nI (bs.getD j 0)))).before args s = true := fun j hj => hm _ (List.mem_cons_of_mem _ (List.mem_cons_of_mem _ (List.mem_cons_of_mem _ (List.mem_cons_of_mem _ (List.mem_map.mpr ⟨j, List.mem_range.mpr hj, rfl⟩)))))
  obtain ⟨a, c, cA, kA, q1, q2, q3, q4, q5, q6, -⟩ := Cond.exactly_spec (args := args) (first := s) (o := none) (s := s) (idx := []) (t := t) (cls := "java/lang/String") hex
  obtain ⟨t', ht, hT⟩ := va_Tof (f := fun j => .int (nI (bs.getD j 0))) (A := A) hl har (va_eqt hle) (fun j hj => va_eqt (hel j hj)) hA
  exact ⟨(a, t'), q1, ⟨cA, q3, q5, by rw [q6]; exact q2, hA a (Array.getElem?_eq_some_iff.mp q3).1⟩, vk_OFof q1 (va_eqt hco) hA, vk_OFof q1 ht hA, hT⟩
theorem zcls {args : Array Value} {s : State} (hz : ∀ w ∈ zW0, w.before args s = true) (ht : ∀ w ∈ tables_1, w.before args s = true) : ∃ D : va_G, ∀ (c : Nat) (q : vw_C), vwCl[c]? = some q → u_Kn s q.1 q.2.1 q.2.2 (D.1 c) (D.2 c) := by
  have h0 : ∀ c : Nat, ∃ d : ClassId × (Nat → Nat), ∀ q : vw_C, vwCl[c]? = some q → u_Kn s q.1 q.2.1 q.2.2 d.1 d.2 := by
    intro c
    match c with
    | 0 =>
      obtain ⟨a, b, h⟩ := u_known (C := RX0) (T := TX0) (N := 6) (n := 6) hz zu_0 (ht (.instantiable RX0 6) (List.mem_of_getElem? (i := 158) (by decide +kernel)))
      exact ⟨(a, b), fun q hq => by have hq : some ((RX0, TX0, 6) : vw_C) = some q := hq; cases hq; exact h⟩
    | 1 =>
      obtain ⟨a, b, h⟩ := u_known (C := RX1) (T := TX1) (N := 1) (n := 1) hz zu_1 (ht (.instantiable RX1 1) (List.mem_of_getElem? (i := 196) (by decide +kernel)))
      exact ⟨(a, b), fun q hq => by have hq : some ((RX1, TX1, 1) : vw_C) = some q := hq; cases hq; exact h⟩
    | 2 =>
      obtain ⟨a, b, h⟩ := u_known (C := RX2) (T := TX2) (N := 10) (n := 10) hz zu_2 (ht (.instantiable RX2 10) (List.mem_of_getElem? (i := 38) (by decide +kernel)))
      exact ⟨(a, b), fun q hq => by have hq : some ((RX2, TX2, 10) : vw_C) = some q := hq; cases hq; exact h⟩
    | 3 =>
      obtain ⟨a, b, h⟩ := u_known (C := RX3) (T := TX3) (N := 9) (n := 9) hz zu_3 (ht (.instantiable RX3 9) (List.mem_of_getElem? (i := 32) (by decide +kernel)))
      exact ⟨(a, b), fun q hq => by have hq : some ((RX3, TX3, 9) : vw_C) = some q := hq; cases hq; exact h⟩
    | 4 =>
      obtain ⟨a, b, h⟩ := u_known (C := RX4) (T := TX4) (N := 5) (n := 5) hz zu_4 (ht (.instantiable RX4 5) (List.mem_of_getElem? (i := 74) (by decide +kernel)))
      exact ⟨(a, b), fun q hq => by have hq : some ((RX4, TX4, 5) : vw_C) = some q := hq; cases hq; exact h⟩
    | 5 =>
      obtain ⟨a, b, h⟩ := u_known (C := RX5) (T := TX5) (N := 1) (n := 1) hz zu_5 (ht (.instantiable RX5 1) (List.mem_of_getElem? (i := 186) (by decide +kernel)))
      exact ⟨(a, b), fun q hq => by have hq : some ((RX5, TX5, 1) : vw_C) = some q := hq; cases hq; exact h⟩
    | 6 =>
      obtain ⟨a, b, h⟩ := u_known (C := RX6) (T := TX6) (N := 7) (n := 7) hz zu_6 (ht (.instantiable RX6 7) (List.mem_of_getElem? (i := 45) (by decide +kernel)))
      exact ⟨(a, b), fun q hq => by have hq : some ((RX6, TX6, 7) : vw_C) = some q := hq; cases hq; exact h⟩
    | 7 =>
      obtain ⟨a, b, h⟩ := u_known (C := RX7) (T := TX7) (N := 10) (n := 10) hz zu_7 (ht (.instantiable RX7 10) (List.mem_of_getElem? (i := 24) (by decide +kernel)))
      exact ⟨(a, b), fun q hq => by have hq : some ((RX7, TX7, 10) : vw_C) = some q := hq; cases hq; exact h⟩
    | 8 =>
      obtain ⟨a, b, h⟩ := u_known (C := RX8) (T := TX8) (N := 62) (n := 62) hz zu_8 (ht (.instantiable RX8 62) (List.mem_of_getElem? (i := 1363) (by decide +kernel)))
      exact ⟨(a, b), fun q hq => by have hq : some ((RX8, TX8, 62) : vw_C) = some q := hq; cases hq; exact h⟩
    | n + 9 => exact ⟨(0, fun _ => 0), fun q hq => by rw [List.getElem?_eq_none (show 9 ≤ n + 9 by omega)] at hq; cases hq⟩
  obtain ⟨f, hf⟩ := Classical.axiomOfChoice h0
  exact ⟨(fun c => (f c).1, fun c => (f c).2), fun c q hq => hf c q hq⟩
theorem zarp {args : Array Value} {s : State} {t : FieldType} (h : (Cond.arrayClass t).before args s = true) (hp : ∀ cA : ClassId, s.vm.findClass ("[" ++ t.toString) = some cA → va_RA s cA t) : ∃ cA : ClassId, ArrOfT s cA t ∧ va_RA s cA t := by
  obtain ⟨c, k, comp, h1, h2, h3⟩ := Cond.arrayClass_spec h
  exact ⟨c, fun n z => ⟨(fun k h => by cases h), k, h2, comp, h3⟩, hp c h1⟩
theorem zaro {args : Array Value} {s : State} {C : String} (h : (Cond.arrayOver (.object C)).before args s = true) : ∃ cA : ClassId, ArrOfT s cA (.object C) ∧ va_RA s cA (.object C) := by
  obtain ⟨comp, c, k, h1, -, h2, h3, h4⟩ := Cond.arrayOver_spec h
  exact ⟨c, fun n z => ⟨(fun k h => by cases h), k, h2, comp, h3⟩, k, comp, h2, h3, h1, h4⟩
theorem zex {args : Array Value} {s : State} {t : Term} {nm : String} (h : (Cond.exactly t nm).before args s = true) : ∃ a : Nat, t.eval args s none [] s = some (.ref a) := by
  obtain ⟨a, c, cA, kA, q1, -⟩ := Cond.exactly_spec (args := args) (first := s) (o := none) (s := s) (idx := []) (t := t) (cls := nm) h
  exact ⟨a, q1⟩
theorem zNW_in : ∀ w ∈ zNW, w ∈ tables_1 := List.forall_mem_cons.mpr ⟨(List.mem_of_getElem? (i := 469) (by decide +kernel)), List.forall_mem_cons.mpr ⟨(List.mem_of_getElem? (i := 471) (by decide +kernel)), List.forall_mem_cons.mpr ⟨(List.mem_of_getElem? (i := 473) (by decide +kernel)), List.forall_mem_cons.mpr ⟨(List.mem_of_getElem? (i := 467) (by decide +kernel)), List.forall_mem_cons.mpr ⟨(List.mem_of_getElem? (i := 877) (by decide +kernel)), List.forall_mem_cons.mpr ⟨(List.mem_of_getElem? (i := 46) (by decide +kernel)), List.forall_mem_cons.mpr ⟨(List.mem_of_getElem? (i := 184) (by decide +kernel)), List.forall_mem_cons.mpr ⟨(List.mem_of_getElem? (i := 197) (by decide +kernel)), fun _ h => absurd h List.not_mem_nil⟩⟩⟩⟩⟩⟩⟩⟩
theorem zST_0 : Jvm.Cond.stringRef "SlideZips$Parser" 78 ";()+-*/<=" ∈ tables_1 := (List.mem_of_getElem? (i := 562) (by decide +kernel))
theorem zST_1 : Jvm.Cond.stringRef "SlideZips$Parser" 99 "zip" ∈ tables_1 := (List.mem_of_getElem? (i := 649) (by decide +kernel))
theorem zST_2 : Jvm.Cond.stringRef "SlideZips$Parser" 148 "to" ∈ tables_1 := (List.mem_of_getElem? (i := 699) (by decide +kernel))
theorem zST_3 : Jvm.Cond.stringRef "SlideZips$Parser" 109 "coil" ∈ tables_1 := (List.mem_of_getElem? (i := 740) (by decide +kernel))
theorem zST_4 : Jvm.Cond.stringRef "SlideZips$Parser" 111 "strain" ∈ tables_1 := (List.mem_of_getElem? (i := 741) (by decide +kernel))
theorem zST_5 : Jvm.Cond.stringRef "SlideZips$Parser" 116 "pulls" ∈ tables_1 := (List.mem_of_getElem? (i := 754) (by decide +kernel))
theorem zST_6 : Jvm.Cond.stringRef "SlideZips$Parser" 201 "not" ∈ tables_1 := (List.mem_of_getElem? (i := 783) (by decide +kernel))
theorem zST_7 : Jvm.Cond.stringRef "SlideZips$Parser" 218 "place" ∈ tables_1 := (List.mem_of_getElem? (i := 804) (by decide +kernel))
theorem zST_8 : Jvm.Cond.stringRef "SlideZips$Parser" 220 "hold" ∈ tables_1 := (List.mem_of_getElem? (i := 805) (by decide +kernel))
theorem zST_9 : Jvm.Cond.stringRef "SlideZips$Parser" 222 "day" ∈ tables_1 := (List.mem_of_getElem? (i := 806) (by decide +kernel))
theorem zST_10 : Jvm.Cond.stringRef "SlideZips$Parser" 224 "open" ∈ tables_1 := (List.mem_of_getElem? (i := 807) (by decide +kernel))
theorem zST_11 : Jvm.Cond.stringRef "SlideZips$Parser" 226 "bursts" ∈ tables_1 := (List.mem_of_getElem? (i := 808) (by decide +kernel))
theorem zST_12 : Jvm.Cond.stringRef "SlideZips$Parser" 199 "and" ∈ tables_1 := (List.mem_of_getElem? (i := 813) (by decide +kernel))
theorem zST_13 : Jvm.Cond.stringRef "SlideZips$Parser" 189 "or" ∈ tables_1 := (List.mem_of_getElem? (i := 814) (by decide +kernel))
theorem zST_14 : Jvm.Cond.stringRef "SlideZips$Parser" 121 "wears" ∈ tables_1 := (List.mem_of_getElem? (i := 823) (by decide +kernel))
theorem zST_15 : Jvm.Cond.stringRef "SlideZipsModel" 11 "zip" ∈ tables_1 := (List.mem_of_getElem? (i := 1370) (by decide +kernel))
theorem zST_16 : Jvm.Cond.stringRef "SlideZipsModel" 13 "coil" ∈ tables_1 := (List.mem_of_getElem? (i := 1371) (by decide +kernel))
theorem zST_17 : Jvm.Cond.stringRef "SlideZipsModel" 19 "strain" ∈ tables_1 := (List.mem_of_getElem? (i := 1372) (by decide +kernel))
theorem zST_18 : Jvm.Cond.stringRef "SlideZipsModel" 21 "place" ∈ tables_1 := (List.mem_of_getElem? (i := 1373) (by decide +kernel))
theorem zST_19 : Jvm.Cond.stringRef "SlideZipsModel" 23 "hold" ∈ tables_1 := (List.mem_of_getElem? (i := 1374) (by decide +kernel))
theorem zST_20 : Jvm.Cond.stringRef "SlideZipsModel" 25 "day" ∈ tables_1 := (List.mem_of_getElem? (i := 1375) (by decide +kernel))
theorem zST_21 : Jvm.Cond.stringRef "SlideZipsModel" 27 "open" ∈ tables_1 := (List.mem_of_getElem? (i := 1376) (by decide +kernel))
theorem zST_22 : Jvm.Cond.stringRef "SlideZipsModel" 32 "bursts" ∈ tables_1 := (List.mem_of_getElem? (i := 1377) (by decide +kernel))
theorem zST_23 : Jvm.Cond.stringRef "SlideZipsModel" 284 "pulls" ∈ tables_1 := (List.mem_of_getElem? (i := 1614) (by decide +kernel))
theorem zST_24 : Jvm.Cond.stringRef "SlideZipsModel" 286 "wears" ∈ tables_1 := (List.mem_of_getElem? (i := 1615) (by decide +kernel))
theorem zST_25 : Jvm.Cond.stringRef "SlideZipsModel" 264 "not" ∈ tables_1 := (List.mem_of_getElem? (i := 1648) (by decide +kernel))
theorem zST_26 : Jvm.Cond.stringRef "SlideZipsModel" 272 "and" ∈ tables_1 := (List.mem_of_getElem? (i := 1669) (by decide +kernel))
theorem zST_27 : Jvm.Cond.stringRef "SlideZipsModel" 277 "or" ∈ tables_1 := (List.mem_of_getElem? (i := 1670) (by decide +kernel))
theorem zST_28 : Jvm.Cond.stringRef "SlideZipsModel" 279 "to" ∈ tables_1 := (List.mem_of_getElem? (i := 1675) (by decide +kernel))
theorem zMS_0 : Jvm.Cond.stringRef "SlideZips" 76 "the tape has not so many bytes" ∈ tables_1 ∧ Jvm.Cond.exactly (.string "SlideZips" 76) "java/lang/String" ∈ zfl := ⟨(List.mem_of_getElem? (i := 505) (by decide +kernel)), (List.mem_of_getElem? (i := 31) (by decide +kernel))⟩
theorem zMS_1 : Jvm.Cond.stringRef "SlideZips" 396 "no such zip" ∈ tables_1 ∧ Jvm.Cond.exactly (.string "SlideZips" 396) "java/lang/String" ∈ zfl := ⟨(List.mem_of_getElem? (i := 884) (by decide +kernel)), (List.mem_of_getElem? (i := 189) (by decide +kernel))⟩
theorem zMS_2 : Jvm.Cond.stringRef "SlideZips" 130 "no such what" ∈ tables_1 ∧ Jvm.Cond.exactly (.string "SlideZips" 130) "java/lang/String" ∈ zfl := ⟨(List.mem_of_getElem? (i := 904) (by decide +kernel)), (List.mem_of_getElem? (i := 204) (by decide +kernel))⟩
theorem zMS_3 : Jvm.Cond.stringRef "SlideZips" 401 "no such place" ∈ tables_1 ∧ Jvm.Cond.exactly (.string "SlideZips" 401) "java/lang/String" ∈ zfl := ⟨(List.mem_of_getElem? (i := 956) (by decide +kernel)), (List.mem_of_getElem? (i := 220) (by decide +kernel))⟩
theorem zMS_4 : Jvm.Cond.stringRef "SlideZips" 403 "no such tape" ∈ tables_1 ∧ Jvm.Cond.exactly (.string "SlideZips" 403) "java/lang/String" ∈ zfl := ⟨(List.mem_of_getElem? (i := 980) (by decide +kernel)), (List.mem_of_getElem? (i := 237) (by decide +kernel))⟩
theorem zMS_5 : Jvm.Cond.stringRef "SlideZips" 405 "a number out of its range" ∈ tables_1 ∧ Jvm.Cond.exactly (.string "SlideZips" 405) "java/lang/String" ∈ zfl := ⟨(List.mem_of_getElem? (i := 1034) (by decide +kernel)), (List.mem_of_getElem? (i := 253) (by decide +kernel))⟩
theorem zMS_6 : Jvm.Cond.stringRef "SlideZips" 360 "both are one" ∈ tables_1 ∧ Jvm.Cond.exactly (.string "SlideZips" 360) "java/lang/String" ∈ zfl := ⟨(List.mem_of_getElem? (i := 1282) (by decide +kernel)), (List.mem_of_getElem? (i := 282) (by decide +kernel))⟩
theorem zST_all {args : Array Value} {s : State} {ra : Nat → Nat} (ht : ∀ w ∈ tables_1, w.before args s = true) (hr : ∀ k : Nat, k < 29 → (ztm k).eval args s none [] s = some (.ref (ra (2 * k)))) : ∀ q ∈ zSTR, vk_R q.1 q.2.1 q.2.2.2 (ra q.2.2.1) s := List.forall_mem_cons.mpr ⟨vk_R.of (ht _ zST_0) (hr 0 (by decide)), List.forall_mem_cons.mpr ⟨vk_R.of (ht _ zST_1) (hr 1 (by decide)), List.forall_mem_cons.mpr ⟨vk_R.of (ht _ zST_2) (hr 6 (by decide)), List.forall_mem_cons.mpr ⟨vk_R.of (ht _ zST_3) (hr 2 (by decide)), List.forall_mem_cons.mpr ⟨vk_R.of (ht _ zST_4) (hr 3 (by decide)), List.forall_mem_cons.mpr ⟨vk_R.of (ht _ zST_5) (hr 4 (by decide)), List.forall_mem_cons.mpr ⟨vk_R.of (ht _ zST_6) (hr 9 (by decide)), List.forall_mem_cons.mpr ⟨vk_R.of (ht _ zST_7) (hr 10 (by decide)), List.forall_mem_cons.mpr ⟨vk_R.of (ht _ zST_8) (hr 11 (by decide)), List.forall_mem_cons.mpr ⟨vk_R.of (ht _ zST_9) (hr 12 (by decide)), List.forall_mem_cons.mpr ⟨vk_R.of (ht _ zST_10) (hr 13 (by decide)), List.forall_mem_cons.mpr ⟨vk_R.of (ht _ zST_11) (hr 14 (by decide)), List.forall_mem_cons.mpr ⟨vk_R.of (ht _ zST_12) (hr 8 (by decide)), List.forall_mem_cons.mpr ⟨vk_R.of (ht _ zST_13) (hr 7 (by decide)), List.forall_mem_cons.mpr ⟨vk_R.of (ht _ zST_14) (hr 5 (by decide)), List.forall_mem_cons.mpr ⟨vk_R.of (ht _ zST_15) (hr 15 (by decide)), List.forall_mem_cons.mpr ⟨vk_R.of (ht _ zST_16) (hr 16 (by decide)), List.forall_mem_cons.mpr ⟨vk_R.of (ht _ zST_17) (hr 17 (by decide)), List.forall_mem_cons.mpr ⟨vk_R.of (ht _ zST_18) (hr 18 (by decide)), List.forall_mem_cons.mpr ⟨vk_R.of (ht _ zST_19) (hr 19 (by decide)), List.forall_mem_cons.mpr ⟨vk_R.of (ht _ zST_20) (hr 20 (by decide)), List.forall_mem_cons.mpr ⟨vk_R.of (ht _ zST_21) (hr 21 (by decide)), List.forall_mem_cons.mpr ⟨vk_R.of (ht _ zST_22) (hr 22 (by decide)), List.forall_mem_cons.mpr ⟨vk_R.of (ht _ zST_23) (hr 27 (by decide)), List.forall_mem_cons.mpr ⟨vk_R.of (ht _ zST_24) (hr 28 (by decide)), List.forall_mem_cons.mpr ⟨vk_R.of (ht _ zST_25) (hr 23 (by decide)), List.forall_mem_cons.mpr ⟨vk_R.of (ht _ zST_26) (hr 24 (by decide)), List.forall_mem_cons.mpr ⟨vk_R.of (ht _ zST_27) (hr 25 (by decide)), List.forall_mem_cons.mpr ⟨vk_R.of (ht _ zST_28) (hr 26 (by decide)), fun _ h => absurd h List.not_mem_nil⟩⟩⟩⟩⟩⟩⟩⟩⟩⟩⟩⟩⟩⟩⟩⟩⟩⟩⟩⟩⟩⟩⟩⟩⟩⟩⟩⟩⟩
theorem zMS_1a {args : Array Value} {s : State} {C tx : String} {k : Nat} (ht : ∀ w ∈ tables_1, w.before args s = true) (hg : ∀ c ∈ zfl, c.before args s = true) (h : Jvm.Cond.stringRef C k tx ∈ tables_1 ∧ Jvm.Cond.exactly (.string C k) "java/lang/String" ∈ zfl) : ∃ a, vk_R C k tx a s := by
  obtain ⟨a, ha⟩ := zex (hg _ h.2)
  exact ⟨a, vk_R.of (ht _ h.1) ha⟩
theorem zMS_all {args : Array Value} {s : State} (ht : ∀ w ∈ tables_1, w.before args s = true) (hg : ∀ c ∈ zfl, c.before args s = true) : ∀ q ∈ zMSG, ∃ a, vk_R q.1 q.2.1 q.2.2 a s := List.forall_mem_cons.mpr ⟨zMS_1a ht hg zMS_0, List.forall_mem_cons.mpr ⟨zMS_1a ht hg zMS_1, List.forall_mem_cons.mpr ⟨zMS_1a ht hg zMS_2, List.forall_mem_cons.mpr ⟨zMS_1a ht hg zMS_3, List.forall_mem_cons.mpr ⟨zMS_1a ht hg zMS_4, List.forall_mem_cons.mpr ⟨zMS_1a ht hg zMS_5, List.forall_mem_cons.mpr ⟨zMS_1a ht hg zMS_6, fun _ h => absurd h List.not_mem_nil⟩⟩⟩⟩⟩⟩⟩
/-- all that stays, at the law's entry -/
theorem zstart (l : Launch) (hflags : l.flags = flags0) {s : State} {b L : Nat} {xs : Nat → Int32} (hL : L ≤ 3072) (hts : ∀ w ∈ lw_tbl, w.before #[Value.ref b] s = true) (hX : va_X b L xs s s.heap) (hbl : b < s.heap.size) (hgv : (Jvm.Cond.and given_1 narrow_1).before #[Value.ref b] s = true) :
    ∃ G : zG, zGl G l s ∧ G.sz = s.heap.size ∧ G.H0 = s.heap ∧ G.ra 997 = b ∧ G.sL = L ∧ G.xs = xs := by
  have ht : ∀ w ∈ tables_1, w.before #[Value.ref b] s = true := fun w h => hts w (List.mem_append_right _ h)
  have hz : ∀ w ∈ zW0, w.before #[Value.ref b] s = true := fun w h => hts w (zW0_good w h).1
  have hg : ∀ c ∈ zfl, c.before #[Value.ref b] s = true := flat_of_before _ hgv
  have hA : ∀ a : Nat, a < s.heap.size → ¬ (fun q : Nat => s.heap.size ≤ q) a := fun a h => Nat.not_le.mpr h
  have h0 : ∀ k : Nat, ∃ q : Nat × Nat, k < 29 → (ztm k).eval #[Value.ref b] s none [] s = some (.ref q.1) ∧ va_O "java/lang/String" q.1 (fun q : Nat => s.heap.size ≤ q) s s.heap ∧ va_OF "java/lang/String" "coder" "B" (.int 0) q.1 (fun q : Nat => s.heap.size ≤ q) s s.heap ∧ va_OF "java/lang/String" "value" "[B" (.ref q.2) q.1 (fun q : Nat => s.heap.size ≤ q) s s.heap ∧ va_T .byte q.2 (ztx k).length (fun j => .int (nI ((ztx k).getD j 0))) (fun q : Nat => s.heap.size ≤ q) s s.heap := fun k => by
    by_cases hk : k < 29
    · obtain ⟨p, n, hc⟩ := zcd_all k hk
      obtain ⟨q, hq⟩ := ztext hg hc (ztx_len k) hA
      exact ⟨q, fun _ => hq⟩
    · exact ⟨(0, 0), fun h => absurd h hk⟩
  obtain ⟨ad, had⟩ := Classical.axiomOfChoice h0
  obtain ⟨D, hD⟩ := zcls hz ht
  obtain ⟨c0, a0⟩ := zarp (ht (.arrayClass .int) (List.mem_of_getElem? (i := 95) (by decide +kernel))) (fun _ h => h)
  obtain ⟨c1, a1⟩ := zarp (ht (.arrayClass .long) (List.mem_of_getElem? (i := 182) (by decide +kernel))) (fun _ h => h)
  obtain ⟨c2, a2⟩ := zarp (ht (.arrayClass .byte) (List.mem_of_getElem? (i := 72) (by decide +kernel))) (fun _ h => h)
  have o3 : (Cond.arrayOver (.object "SlideZips$Zip")).before #[Value.ref b] s = true := ht _ (List.mem_of_getElem? (i := 44) (by decide +kernel))
  have o4 : (Cond.arrayOver (.object "java/lang/String")).before #[Value.ref b] s = true := ht _ (List.mem_of_getElem? (i := 1369) (by decide +kernel))
  obtain ⟨c3, a3⟩ := zaro o3
  obtain ⟨c4, a4⟩ := zaro o4
  have hvS : ∃ v : Value, va_Z "jdk/internal/util/Preconditions" "SIOOBE_FORMATTER" "Ljava/util/function/BiFunction;" v (fun q : Nat => s.heap.size ≤ q) s s.heap ∧ v.category = 1 := by
    rcases va_Zqof (A := fun q : Nat => s.heap.size ≤ q) (ht (.laysStatic "jdk/internal/util/Preconditions" "SIOOBE_FORMATTER" "Ljava/util/function/BiFunction;") (List.mem_of_getElem? (i := 615) (by decide +kernel))) (ht (.initialized "jdk/internal/util/Preconditions") (List.mem_of_getElem? (i := 18) (by decide +kernel))) (hg (.isRef (.static "jdk/internal/util/Preconditions" "SIOOBE_FORMATTER" "Ljava/util/function/BiFunction;")) (List.mem_of_getElem? (i := 7) (by decide +kernel))) hA with h | ⟨t, h⟩
    · exact ⟨_, h, rfl⟩
    · exact ⟨_, h, rfl⟩
  obtain ⟨vS, v1, v2⟩ := hvS
  have hra0 : ∀ k : Nat, k < 29 → (if 2 * k = 997 then b else if 2 * k % 2 = 0 then (ad (2 * k / 2)).1 else (ad (2 * k / 2)).2) = (ad k).1 := fun k hk => by
    rw [if_neg (by omega), if_pos (by omega), show 2 * k / 2 = k by omega]
  have hra1 : ∀ k : Nat, k < 29 → (if 2 * k + 1 = 997 then b else if (2 * k + 1) % 2 = 0 then (ad ((2 * k + 1) / 2)).1 else (ad ((2 * k + 1) / 2)).2) = (ad k).2 := fun k hk => by
    rw [if_neg (by omega), if_neg (by omega), show (2 * k + 1) / 2 = k by omega]
  refine ⟨(s.heap.size, fun i => if i = 997 then b else if i % 2 = 0 then (ad (i / 2)).1 else (ad (i / 2)).2, vS, fun k => match k with | 0 => c0 | 1 => c1 | 2 => c2 | 3 => c3 | _ => c4, D, s.heap, L, xs), ⟨?_, rfl, ⟨hD, ?_⟩, ?_, v1, v2, ?_, ?_, fun k hk => ?_, hX, hbl, ?_, ?_, zMS_all ht hg, ⟨va_Nc.of (hg (.not (.castable "java/lang/IllegalArgumentException" "java/util/NoSuchElementException")) (List.mem_of_getElem? (i := 30) (by decide +kernel))), va_Nc.of (hg (.not (.castable "java/util/NoSuchElementException" "java/lang/IllegalArgumentException")) (List.mem_of_getElem? (i := 20) (by decide +kernel)))⟩, va_AO.of o3, va_AO.of o4, fun w hw => va_Nw.of (zNW_on w hw) (ht w (zNW_in w hw))⟩, rfl, rfl, rfl, rfl, rfl⟩
  · show (!l.flags.contains noTraceFlag) = false
    rw [hflags]
    decide +kernel
  · intro k q hq
    match k with
    | 0 => have hq : some (c0, FieldType.int) = some q := hq; cases hq; exact a0
    | 1 => have hq : some (c1, FieldType.long) = some q := hq; cases hq; exact a1
    | 2 => have hq : some (c2, FieldType.byte) = some q := hq; cases hq; exact a2
    | 3 => have hq : some (c3, FieldType.object "SlideZips$Zip") = some q := hq; cases hq; exact a3
    | 4 => have hq : some (c4, FieldType.object "java/lang/String") = some q := hq; cases hq; exact a4
    | n + 5 => rw [List.getElem?_eq_none (show 5 ≤ n + 5 by omega)] at hq; cases hq
  · exact va_Zof (ht (.laysStatic "java/lang/String" "COMPACT_STRINGS" "Z") (List.mem_of_getElem? (i := 576) (by decide +kernel))) (ht (.initialized "java/lang/String") (List.mem_of_getElem? (i := 15) (by decide +kernel))) (va_eqt (hg (.eq (.static "java/lang/String" "COMPACT_STRINGS" "Z") (.int 1)) (List.mem_of_getElem? (i := 6) (by decide +kernel)))) hA
  · exact vx_Zqof (ht (.laysStatic "java/lang/Throwable" "UNASSIGNED_STACK" "[Ljava/lang/StackTraceElement;") (List.mem_of_getElem? (i := 492) (by decide +kernel))) (ht (.initialized "java/lang/Throwable") (List.mem_of_getElem? (i := 10) (by decide +kernel))) (hg (.isRef (.static "java/lang/Throwable" "UNASSIGNED_STACK" "[Ljava/lang/StackTraceElement;")) (List.mem_of_getElem? (i := 4) (by decide +kernel))) hA
  · exact vx_Zqof (ht (.laysStatic "java/lang/Throwable" "SUPPRESSED_SENTINEL" "Ljava/util/List;") (List.mem_of_getElem? (i := 494) (by decide +kernel))) (ht (.initialized "java/lang/Throwable") (List.mem_of_getElem? (i := 10) (by decide +kernel))) (hg (.isRef (.static "java/lang/Throwable" "SUPPRESSED_SENTINEL" "Ljava/util/List;")) (List.mem_of_getElem? (i := 5) (by decide +kernel))) hA
  · obtain ⟨-, g1, g2, g3, g4⟩ := had k hk
    show va_O _ (if 2 * k = 997 then b else if 2 * k % 2 = 0 then (ad (2 * k / 2)).1 else (ad (2 * k / 2)).2) _ _ _ ∧ va_OF _ _ _ _ (if 2 * k = 997 then b else if 2 * k % 2 = 0 then (ad (2 * k / 2)).1 else (ad (2 * k / 2)).2) _ _ _ ∧ va_OF _ _ _ (.ref (if 2 * k + 1 = 997 then b else if (2 * k + 1) % 2 = 0 then (ad ((2 * k + 1) / 2)).1 else (ad ((2 * k + 1) / 2)).2)) (if 2 * k = 997 then b else if 2 * k % 2 = 0 then (ad (2 * k / 2)).1 else (ad (2 * k / 2)).2) _ _ _ ∧ va_T _ (if 2 * k + 1 = 997 then b else if (2 * k + 1) % 2 = 0 then (ad ((2 * k + 1) / 2)).1 else (ad ((2 * k + 1) / 2)).2) _ _ _ _ _
    rw [hra0 k hk, hra1 k hk]
    exact ⟨g1, g2, g3, g4⟩
  · exact Nat.lt_of_le_of_lt hL (Nat.le_of_ble_eq_true rfl)
  · exact zST_all (args := #[Value.ref b]) (ra := fun i => if i = 997 then b else if i % 2 = 0 then (ad (i / 2)).1 else (ad (i / 2)).2) ht (fun k hk => by rw [(had k hk).1, ← hra0 k hk])
