def zCON : List (String × Nat × Int32) := [("java/lang/Integer", 265, 1431655765), ("java/lang/Integer", 266, 858993459), ("java/lang/Integer", 267, 252645135), ("SlideZips$Zip", 86, 65535), ("SlideZips$Dice", 13, 1103515245), ("SlideZipsModel", 197, 100000), ("SlideZipsModel", 471, (-1000000)), ("SlideZipsModel", 504, 1103515245)]
theorem zCON_0 : Cond.constant "java/lang/Integer" 265 1431655765 ∈ zW0 := zW0_t (List.mem_of_getElem? (i := 371) (by decide +kernel)) rfl
theorem zCON_1 : Cond.constant "java/lang/Integer" 266 858993459 ∈ zW0 := zW0_t (List.mem_of_getElem? (i := 372) (by decide +kernel)) rfl
theorem zCON_2 : Cond.constant "java/lang/Integer" 267 252645135 ∈ zW0 := zW0_t (List.mem_of_getElem? (i := 373) (by decide +kernel)) rfl
theorem zCON_3 : Cond.constant "SlideZips$Zip" 86 65535 ∈ zW0 := zW0_t (List.mem_of_getElem? (i := 420) (by decide +kernel)) rfl
theorem zCON_4 : Cond.constant "SlideZips$Dice" 13 1103515245 ∈ zW0 := zW0_t (List.mem_of_getElem? (i := 1313) (by decide +kernel)) rfl
theorem zCON_5 : Cond.constant "SlideZipsModel" 197 100000 ∈ zW0 := zW0_t (List.mem_of_getElem? (i := 1595) (by decide +kernel)) rfl
theorem zCON_6 : Cond.constant "SlideZipsModel" 471 (-1000000) ∈ zW0 := zW0_t (List.mem_of_getElem? (i := 1957) (by decide +kernel)) rfl
theorem zCON_7 : Cond.constant "SlideZipsModel" 504 1103515245 ∈ zW0 := zW0_t (List.mem_of_getElem? (i := 2039) (by decide +kernel)) rfl
def zCONJ : List (String × Nat × Int64) := [("SlideZips$Zip", 41, 15), ("SlideZips$Zip", 43, (-1)), ("SlideZipsModel", 409, 20), ("SlideZipsModel", 423, 8), ("SlideZipsModel", 428, 9), ("SlideZipsModel", 430, 4), ("SlideZipsModel", 432, 60), ("SlideZipsModel", 437, 2), ("SlideZipsModel", 454, 99), ("SlideZipsModel", 466, (-1)), ("SlideZipsModel", 494, 5), ("SlideZipsModel", 496, 10)]
theorem zCONJ_0 : Cond.constantLong "SlideZips$Zip" 41 15 ∈ zW0 := zW0_t (List.mem_of_getElem? (i := 391) (by decide +kernel)) rfl
theorem zCONJ_1 : Cond.constantLong "SlideZips$Zip" 43 (-1) ∈ zW0 := zW0_t (List.mem_of_getElem? (i := 392) (by decide +kernel)) rfl
theorem zCONJ_2 : Cond.constantLong "SlideZipsModel" 409 20 ∈ zW0 := zW0_t (List.mem_of_getElem? (i := 1809) (by decide +kernel)) rfl
theorem zCONJ_3 : Cond.constantLong "SlideZipsModel" 423 8 ∈ zW0 := zW0_t (List.mem_of_getElem? (i := 1834) (by decide +kernel)) rfl
theorem zCONJ_4 : Cond.constantLong "SlideZipsModel" 428 9 ∈ zW0 := zW0_t (List.mem_of_getElem? (i := 1843) (by decide +kernel)) rfl
theorem zCONJ_5 : Cond.constantLong "SlideZipsModel" 430 4 ∈ zW0 := zW0_t (List.mem_of_getElem? (i := 1856) (by decide +kernel)) rfl
theorem zCONJ_6 : Cond.constantLong "SlideZipsModel" 432 60 ∈ zW0 := zW0_t (List.mem_of_getElem? (i := 1857) (by decide +kernel)) rfl
theorem zCONJ_7 : Cond.constantLong "SlideZipsModel" 437 2 ∈ zW0 := zW0_t (List.mem_of_getElem? (i := 1866) (by decide +kernel)) rfl
theorem zCONJ_8 : Cond.constantLong "SlideZipsModel" 454 99 ∈ zW0 := zW0_t (List.mem_of_getElem? (i := 1919) (by decide +kernel)) rfl
theorem zCONJ_9 : Cond.constantLong "SlideZipsModel" 466 (-1) ∈ zW0 := zW0_t (List.mem_of_getElem? (i := 1936) (by decide +kernel)) rfl
theorem zCONJ_10 : Cond.constantLong "SlideZipsModel" 494 5 ∈ zW0 := zW0_t (List.mem_of_getElem? (i := 2017) (by decide +kernel)) rfl
theorem zCONJ_11 : Cond.constantLong "SlideZipsModel" 496 10 ∈ zW0 := zW0_t (List.mem_of_getElem? (i := 2018) (by decide +kernel)) rfl
def zGST : List (String × Nat × String × String × String) := [("java/lang/String", 38, "java/lang/String", "COMPACT_STRINGS", "Z"), ("java/lang/String", 1053, "jdk/internal/util/Preconditions", "SIOOBE_FORMATTER", "Ljava/util/function/BiFunction;")]
theorem zGST_0 : Cond.fieldLink "java/lang/String" 38 "java/lang/String" "COMPACT_STRINGS" "Z" ∈ zW0 := zW0_t (List.mem_of_getElem? (i := 575) (by decide +kernel)) rfl
theorem zGST_1 : Cond.fieldLink "java/lang/String" 1053 "jdk/internal/util/Preconditions" "SIOOBE_FORMATTER" "Ljava/util/function/BiFunction;" ∈ zW0 := zW0_t (List.mem_of_getElem? (i := 614) (by decide +kernel)) rfl
theorem zCON_ok : ∀ q ∈ zCON, Cond.constant q.1 q.2.1 q.2.2 ∈ zW0 := List.forall_mem_cons.mpr ⟨zCON_0, List.forall_mem_cons.mpr ⟨zCON_1, List.forall_mem_cons.mpr ⟨zCON_2, List.forall_mem_cons.mpr ⟨zCON_3, List.forall_mem_cons.mpr ⟨zCON_4, List.forall_mem_cons.mpr ⟨zCON_5, List.forall_mem_cons.mpr ⟨zCON_6, List.forall_mem_cons.mpr ⟨zCON_7, fun _ h => absurd h List.not_mem_nil⟩⟩⟩⟩⟩⟩⟩⟩
theorem zCONJ_ok : ∀ q ∈ zCONJ, Cond.constantLong q.1 q.2.1 q.2.2 ∈ zW0 := List.forall_mem_cons.mpr ⟨zCONJ_0, List.forall_mem_cons.mpr ⟨zCONJ_1, List.forall_mem_cons.mpr ⟨zCONJ_2, List.forall_mem_cons.mpr ⟨zCONJ_3, List.forall_mem_cons.mpr ⟨zCONJ_4, List.forall_mem_cons.mpr ⟨zCONJ_5, List.forall_mem_cons.mpr ⟨zCONJ_6, List.forall_mem_cons.mpr ⟨zCONJ_7, List.forall_mem_cons.mpr ⟨zCONJ_8, List.forall_mem_cons.mpr ⟨zCONJ_9, List.forall_mem_cons.mpr ⟨zCONJ_10, List.forall_mem_cons.mpr ⟨zCONJ_11, fun _ h => absurd h List.not_mem_nil⟩⟩⟩⟩⟩⟩⟩⟩⟩⟩⟩⟩
theorem zGST_ok : ∀ q ∈ zGST, Cond.fieldLink q.1 q.2.1 q.2.2.1 q.2.2.2.1 q.2.2.2.2 ∈ zW0 := List.forall_mem_cons.mpr ⟨zGST_0, List.forall_mem_cons.mpr ⟨zGST_1, fun _ h => absurd h List.not_mem_nil⟩⟩
/-- constants, statics and texts of the pool -/
def zisc (own : String) (k : Nat) (v : Int32) : Bool := zCON.any (fun q => decide (q.1 = own) && Nat.beq q.2.1 k && decide (q.2.2 = v))
def zisj (own : String) (k : Nat) (v : Int64) : Bool := zCONJ.any (fun q => decide (q.1 = own) && Nat.beq q.2.1 k && decide (q.2.2 = v))
def zisg (own : String) (k : Nat) (c n d : String) : Bool := zGST.any (fun q => decide (q.1 = own) && Nat.beq q.2.1 k && decide (q.2.2 = (c, n, d)))
def zist (own : String) (k i : Nat) : Bool := zSTR.any (fun q => decide (q.1 = own) && Nat.beq q.2.1 k && Nat.beq q.2.2.1 i)
theorem zisc_ok {own : String} {k : Nat} {v : Int32} (h : zisc own k v = true) : Cond.constant own k v ∈ zW0 := by
  obtain ⟨q, hq, e⟩ := List.any_eq_true.mp h
  simp only [Bool.and_eq_true, decide_eq_true_eq] at e
  have e2 := Nat.eq_of_beq_eq_true e.1.2
  have := zCON_ok q hq
  rw [e.1.1, e2, e.2] at this
  exact this
theorem zisj_ok {own : String} {k : Nat} {v : Int64} (h : zisj own k v = true) : Cond.constantLong own k v ∈ zW0 := by
  obtain ⟨q, hq, e⟩ := List.any_eq_true.mp h
  simp only [Bool.and_eq_true, decide_eq_true_eq] at e
  have e2 := Nat.eq_of_beq_eq_true e.1.2
  have := zCONJ_ok q hq
  rw [e.1.1, e2, e.2] at this
  exact this
theorem zisg_ok {own : String} {k : Nat} {c n d : String} (h : zisg own k c n d = true) : Cond.fieldLink own k c n d ∈ zW0 := by
  obtain ⟨q, hq, e⟩ := List.any_eq_true.mp h
  simp only [Bool.and_eq_true, decide_eq_true_eq] at e
  have e2 := Nat.eq_of_beq_eq_true e.1.2
  have := zGST_ok q hq
  rw [e.1.1, e2, e.2] at this
  exact this
theorem zSTR_lt : ∀ q ∈ zSTR, q.2.2.1 < 1000 := by decide +kernel
theorem zist_ok {own : String} {k i : Nat} (h : zist own k i = true) : ∃ tx, (own, k, i, tx) ∈ zSTR ∧ i < 1000 := by
  obtain ⟨q, hq, e⟩ := List.any_eq_true.mp h
  simp only [Bool.and_eq_true, decide_eq_true_eq] at e
  have e2 := Nat.eq_of_beq_eq_true e.1.2
  have e3 := Nat.eq_of_beq_eq_true e.2
  have h3 := zSTR_lt q hq
  obtain ⟨a, b, c, d⟩ := q
  obtain rfl : a = own := e.1.1
  obtain rfl : b = k := e2
  obtain rfl : c = i := e3
  exact ⟨d, hq, h3⟩
