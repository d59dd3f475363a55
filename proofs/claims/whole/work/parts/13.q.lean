/-- a method's end by number, calls going at most d deep -/
def zE : Nat → Nat → List Value → zH → (zR → zH → Prop) → Prop
  | 0, _, _, _, _ => False
  | d + 1, y, as, h, Q => zok y as h ∧ zW (zE d) (zMT y) Q (0, zkp ((zMT y).2.2.1 0) (lv_args 0 as), [], h)
theorem zE_mo : ∀ d, zMo (zE d)
  | 0 => fun _ _ _ _ _ h _ => h.elim
  | d + 1 => fun _ _ _ _ _ h hQ => ⟨h.1, zW_mo (zE_mo d) hQ h.2⟩
theorem zE_mono {d y : Nat} {as : List Value} {h : zH} {Q Q' : zR → zH → Prop} (H : zE d y as h Q) (hQ : ∀ r h, Q r h → Q' r h) : zE d y as h Q' := zE_mo d y as h Q Q' H hQ
theorem zW_in {d : Nat} {M : zM} {Q : zR → zH → Prop} {f : zF} (H : zsF (zE d) M Q (zW (zE d) M Q) f) : zW (zE d) M Q f := zW_in0 (zE_mo d) H
theorem zq_ipush {d : Nat} {M : zM} {Q : zR → zH → Prop} {pc len r1 r2 r3 : Nat} {ts : List Nat} {lv : List (Nat × Value)} {st : List Value} {h : zH} {pc' : Nat}  (ht : M.2.1 pc = some (0, len, r1, r2, r3, ts)) (hn : pc + len = pc') (hk : M.2.2.1 pc' = none)  (H : zW (zE d) M Q (pc', lv, .int (Int32.ofNat r2) :: st, h)) : zW (zE d) M Q (pc, lv, st, h) := by
  subst hn
  refine zW_in ?_
  show zs (zE d) M Q _ pc lv _ h
  unfold zs
  rw [ht]
  show zo_ipush (zE d) M Q (zW (zE d) M Q) pc len r1 r2 r3 ts lv (st) h
  unfold zo_ipush
  rw [hk]
  exact (H)
theorem zq_ipush_c {d : Nat} {M : zM} {Q : zR → zH → Prop} {pc len r1 r2 r3 : Nat} {ts : List Nat} {lv : List (Nat × Value)} {st : List Value} {h : zH} {pc' : Nat}  (ht : M.2.1 pc = some (0, len, r1, r2, r3, ts)) (hn : pc + len = pc')  (H : zW (zE d) M Q (pc', zkp (M.2.2.1 pc') (lv), .int (Int32.ofNat r2) :: st, h)) : zW (zE d) M Q (pc, lv, st, h) := by
  subst hn
  refine zW_in ?_
  show zs (zE d) M Q _ pc lv _ h
  unfold zs
  rw [ht]
  show zo_ipush (zE d) M Q (zW (zE d) M Q) pc len r1 r2 r3 ts lv (st) h
  unfold zo_ipush
  exact (H)
theorem zq_ipushn {d : Nat} {M : zM} {Q : zR → zH → Prop} {pc len r1 r2 r3 : Nat} {ts : List Nat} {lv : List (Nat × Value)} {st : List Value} {h : zH} {pc' : Nat}  (ht : M.2.1 pc = some (1, len, r1, r2, r3, ts)) (hn : pc + len = pc') (hk : M.2.2.1 pc' = none)  (H : zW (zE d) M Q (pc', lv, .int (-(Int32.ofNat r2)) :: st, h)) : zW (zE d) M Q (pc, lv, st, h) := by
  subst hn
  refine zW_in ?_
  show zs (zE d) M Q _ pc lv _ h
  unfold zs
  rw [ht]
  show zo_ipushn (zE d) M Q (zW (zE d) M Q) pc len r1 r2 r3 ts lv (st) h
  unfold zo_ipushn
  rw [hk]
  exact (H)
theorem zq_ipushn_c {d : Nat} {M : zM} {Q : zR → zH → Prop} {pc len r1 r2 r3 : Nat} {ts : List Nat} {lv : List (Nat × Value)} {st : List Value} {h : zH} {pc' : Nat}  (ht : M.2.1 pc = some (1, len, r1, r2, r3, ts)) (hn : pc + len = pc')  (H : zW (zE d) M Q (pc', zkp (M.2.2.1 pc') (lv), .int (-(Int32.ofNat r2)) :: st, h)) : zW (zE d) M Q (pc, lv, st, h) := by
  subst hn
  refine zW_in ?_
  show zs (zE d) M Q _ pc lv _ h
  unfold zs
  rw [ht]
  show zo_ipushn (zE d) M Q (zW (zE d) M Q) pc len r1 r2 r3 ts lv (st) h
  unfold zo_ipushn
  exact (H)
theorem zq_lpush {d : Nat} {M : zM} {Q : zR → zH → Prop} {pc len r1 r2 r3 : Nat} {ts : List Nat} {lv : List (Nat × Value)} {st : List Value} {h : zH} {pc' : Nat}  (ht : M.2.1 pc = some (2, len, r1, r2, r3, ts)) (hn : pc + len = pc') (hk : M.2.2.1 pc' = none)  (H : zW (zE d) M Q (pc', lv, .long (Int64.ofNat r2) :: st, h)) : zW (zE d) M Q (pc, lv, st, h) := by
  subst hn
  refine zW_in ?_
  show zs (zE d) M Q _ pc lv _ h
  unfold zs
  rw [ht]
  show zo_lpush (zE d) M Q (zW (zE d) M Q) pc len r1 r2 r3 ts lv (st) h
  unfold zo_lpush
  rw [hk]
  exact (H)
theorem zq_lpush_c {d : Nat} {M : zM} {Q : zR → zH → Prop} {pc len r1 r2 r3 : Nat} {ts : List Nat} {lv : List (Nat × Value)} {st : List Value} {h : zH} {pc' : Nat}  (ht : M.2.1 pc = some (2, len, r1, r2, r3, ts)) (hn : pc + len = pc')  (H : zW (zE d) M Q (pc', zkp (M.2.2.1 pc') (lv), .long (Int64.ofNat r2) :: st, h)) : zW (zE d) M Q (pc, lv, st, h) := by
  subst hn
  refine zW_in ?_
  show zs (zE d) M Q _ pc lv _ h
  unfold zs
  rw [ht]
  show zo_lpush (zE d) M Q (zW (zE d) M Q) pc len r1 r2 r3 ts lv (st) h
  unfold zo_lpush
  exact (H)
theorem zq_lpushn {d : Nat} {M : zM} {Q : zR → zH → Prop} {pc len r1 r2 r3 : Nat} {ts : List Nat} {lv : List (Nat × Value)} {st : List Value} {h : zH} {pc' : Nat}  (ht : M.2.1 pc = some (3, len, r1, r2, r3, ts)) (hn : pc + len = pc') (hk : M.2.2.1 pc' = none)  (H : zW (zE d) M Q (pc', lv, .long (-(Int64.ofNat r2)) :: st, h)) : zW (zE d) M Q (pc, lv, st, h) := by
  subst hn
  refine zW_in ?_
  show zs (zE d) M Q _ pc lv _ h
  unfold zs
  rw [ht]
  show zo_lpushn (zE d) M Q (zW (zE d) M Q) pc len r1 r2 r3 ts lv (st) h
  unfold zo_lpushn
  rw [hk]
  exact (H)
theorem zq_lpushn_c {d : Nat} {M : zM} {Q : zR → zH → Prop} {pc len r1 r2 r3 : Nat} {ts : List Nat} {lv : List (Nat × Value)} {st : List Value} {h : zH} {pc' : Nat}  (ht : M.2.1 pc = some (3, len, r1, r2, r3, ts)) (hn : pc + len = pc')  (H : zW (zE d) M Q (pc', zkp (M.2.2.1 pc') (lv), .long (-(Int64.ofNat r2)) :: st, h)) : zW (zE d) M Q (pc, lv, st, h) := by
  subst hn
  refine zW_in ?_
  show zs (zE d) M Q _ pc lv _ h
  unfold zs
  rw [ht]
  show zo_lpushn (zE d) M Q (zW (zE d) M Q) pc len r1 r2 r3 ts lv (st) h
  unfold zo_lpushn
  exact (H)
theorem zq_opush {d : Nat} {M : zM} {Q : zR → zH → Prop} {pc len r1 r2 r3 : Nat} {ts : List Nat} {lv : List (Nat × Value)} {st : List Value} {h : zH} {pc' : Nat}  (ht : M.2.1 pc = some (76, len, r1, r2, r3, ts)) (hn : pc + len = pc') (hk : M.2.2.1 pc' = none)  (H : zW (zE d) M Q (pc', lv, .retAddr 0 :: st, h)) : zW (zE d) M Q (pc, lv, st, h) := by
  subst hn
  refine zW_in ?_
  show zs (zE d) M Q _ pc lv _ h
  unfold zs
  rw [ht]
  show zo_opush (zE d) M Q (zW (zE d) M Q) pc len r1 r2 r3 ts lv (st) h
  unfold zo_opush
  rw [hk]
  exact (H)
theorem zq_opush_c {d : Nat} {M : zM} {Q : zR → zH → Prop} {pc len r1 r2 r3 : Nat} {ts : List Nat} {lv : List (Nat × Value)} {st : List Value} {h : zH} {pc' : Nat}  (ht : M.2.1 pc = some (76, len, r1, r2, r3, ts)) (hn : pc + len = pc')  (H : zW (zE d) M Q (pc', zkp (M.2.2.1 pc') (lv), .retAddr 0 :: st, h)) : zW (zE d) M Q (pc, lv, st, h) := by
  subst hn
  refine zW_in ?_
  show zs (zE d) M Q _ pc lv _ h
  unfold zs
  rw [ht]
  show zo_opush (zE d) M Q (zW (zE d) M Q) pc len r1 r2 r3 ts lv (st) h
  unfold zo_opush
  exact (H)
theorem zq_rpush {d : Nat} {M : zM} {Q : zR → zH → Prop} {pc len r1 r2 r3 : Nat} {ts : List Nat} {lv : List (Nat × Value)} {st : List Value} {h : zH} {pc' : Nat}  (ht : M.2.1 pc = some (4, len, r1, r2, r3, ts)) (hn : pc + len = pc') (hk : M.2.2.1 pc' = none)  (H : zW (zE d) M Q (pc', lv, .ref r2 :: st, h)) : zW (zE d) M Q (pc, lv, st, h) := by
  subst hn
  refine zW_in ?_
  show zs (zE d) M Q _ pc lv _ h
  unfold zs
  rw [ht]
  show zo_rpush (zE d) M Q (zW (zE d) M Q) pc len r1 r2 r3 ts lv (st) h
  unfold zo_rpush
  rw [hk]
  exact (H)
theorem zq_rpush_c {d : Nat} {M : zM} {Q : zR → zH → Prop} {pc len r1 r2 r3 : Nat} {ts : List Nat} {lv : List (Nat × Value)} {st : List Value} {h : zH} {pc' : Nat}  (ht : M.2.1 pc = some (4, len, r1, r2, r3, ts)) (hn : pc + len = pc')  (H : zW (zE d) M Q (pc', zkp (M.2.2.1 pc') (lv), .ref r2 :: st, h)) : zW (zE d) M Q (pc, lv, st, h) := by
  subst hn
  refine zW_in ?_
  show zs (zE d) M Q _ pc lv _ h
  unfold zs
  rw [ht]
  show zo_rpush (zE d) M Q (zW (zE d) M Q) pc len r1 r2 r3 ts lv (st) h
  unfold zo_rpush
  exact (H)
theorem zq_iload {d : Nat} {M : zM} {Q : zR → zH → Prop} {pc len r1 r2 r3 : Nat} {ts : List Nat} {lv : List (Nat × Value)} {st : List Value} {h : zH} {pc' : Nat} {x : Int32} (ht : M.2.1 pc = some (5, len, r1, r2, r3, ts)) (hn : pc + len = pc') (hk : M.2.2.1 pc' = none) (hl : zlk lv r1 = some (.int x)) (H : zW (zE d) M Q (pc', lv, .int x :: st, h)) : zW (zE d) M Q (pc, lv, st, h) := by
  subst hn
  refine zW_in ?_
  show zs (zE d) M Q _ pc lv _ h
  unfold zs
  rw [ht]
  show zo_iload (zE d) M Q (zW (zE d) M Q) pc len r1 r2 r3 ts lv (st) h
  unfold zo_iload
  rw [hl]
  rw [hk]
  exact (H)
theorem zq_iload_c {d : Nat} {M : zM} {Q : zR → zH → Prop} {pc len r1 r2 r3 : Nat} {ts : List Nat} {lv : List (Nat × Value)} {st : List Value} {h : zH} {pc' : Nat} {x : Int32} (ht : M.2.1 pc = some (5, len, r1, r2, r3, ts)) (hn : pc + len = pc') (hl : zlk lv r1 = some (.int x)) (H : zW (zE d) M Q (pc', zkp (M.2.2.1 pc') (lv), .int x :: st, h)) : zW (zE d) M Q (pc, lv, st, h) := by
  subst hn
  refine zW_in ?_
  show zs (zE d) M Q _ pc lv _ h
  unfold zs
  rw [ht]
  show zo_iload (zE d) M Q (zW (zE d) M Q) pc len r1 r2 r3 ts lv (st) h
  unfold zo_iload
  rw [hl]
  exact (H)
theorem zq_lload {d : Nat} {M : zM} {Q : zR → zH → Prop} {pc len r1 r2 r3 : Nat} {ts : List Nat} {lv : List (Nat × Value)} {st : List Value} {h : zH} {pc' : Nat} {x : Int64} (ht : M.2.1 pc = some (6, len, r1, r2, r3, ts)) (hn : pc + len = pc') (hk : M.2.2.1 pc' = none) (hl : zlk lv r1 = some (.long x)) (H : zW (zE d) M Q (pc', lv, .long x :: st, h)) : zW (zE d) M Q (pc, lv, st, h) := by
  subst hn
  refine zW_in ?_
  show zs (zE d) M Q _ pc lv _ h
  unfold zs
  rw [ht]
  show zo_lload (zE d) M Q (zW (zE d) M Q) pc len r1 r2 r3 ts lv (st) h
  unfold zo_lload
  rw [hl]
  rw [hk]
  exact (H)
theorem zq_lload_c {d : Nat} {M : zM} {Q : zR → zH → Prop} {pc len r1 r2 r3 : Nat} {ts : List Nat} {lv : List (Nat × Value)} {st : List Value} {h : zH} {pc' : Nat} {x : Int64} (ht : M.2.1 pc = some (6, len, r1, r2, r3, ts)) (hn : pc + len = pc') (hl : zlk lv r1 = some (.long x)) (H : zW (zE d) M Q (pc', zkp (M.2.2.1 pc') (lv), .long x :: st, h)) : zW (zE d) M Q (pc, lv, st, h) := by
  subst hn
  refine zW_in ?_
  show zs (zE d) M Q _ pc lv _ h
  unfold zs
  rw [ht]
  show zo_lload (zE d) M Q (zW (zE d) M Q) pc len r1 r2 r3 ts lv (st) h
  unfold zo_lload
  rw [hl]
  exact (H)
theorem zq_aload {d : Nat} {M : zM} {Q : zR → zH → Prop} {pc len r1 r2 r3 : Nat} {ts : List Nat} {lv : List (Nat × Value)} {st : List Value} {h : zH} {pc' : Nat} {x : Nat} (ht : M.2.1 pc = some (7, len, r1, r2, r3, ts)) (hn : pc + len = pc') (hk : M.2.2.1 pc' = none) (hl : zlk lv r1 = some (.ref x)) (H : zW (zE d) M Q (pc', lv, .ref x :: st, h)) : zW (zE d) M Q (pc, lv, st, h) := by
  subst hn
  refine zW_in ?_
  show zs (zE d) M Q _ pc lv _ h
  unfold zs
  rw [ht]
  show zo_aload (zE d) M Q (zW (zE d) M Q) pc len r1 r2 r3 ts lv (st) h
  unfold zo_aload
  rw [hl]
  rw [hk]
  exact (H)
theorem zq_aload_c {d : Nat} {M : zM} {Q : zR → zH → Prop} {pc len r1 r2 r3 : Nat} {ts : List Nat} {lv : List (Nat × Value)} {st : List Value} {h : zH} {pc' : Nat} {x : Nat} (ht : M.2.1 pc = some (7, len, r1, r2, r3, ts)) (hn : pc + len = pc') (hl : zlk lv r1 = some (.ref x)) (H : zW (zE d) M Q (pc', zkp (M.2.2.1 pc') (lv), .ref x :: st, h)) : zW (zE d) M Q (pc, lv, st, h) := by
  subst hn
  refine zW_in ?_
  show zs (zE d) M Q _ pc lv _ h
  unfold zs
  rw [ht]
  show zo_aload (zE d) M Q (zW (zE d) M Q) pc len r1 r2 r3 ts lv (st) h
  unfold zo_aload
  rw [hl]
  exact (H)
theorem zq_istore {d : Nat} {M : zM} {Q : zR → zH → Prop} {pc len r1 r2 r3 : Nat} {ts : List Nat} {lv : List (Nat × Value)} {st : List Value} {h : zH} {pc' : Nat} {x : Int32} (ht : M.2.1 pc = some (8, len, r1, r2, r3, ts)) (hn : pc + len = pc') (hk : M.2.2.1 pc' = none)  (H : zW (zE d) M Q (pc', (r1, .int x) :: zrm lv r1, st, h)) : zW (zE d) M Q (pc, lv, .int x :: st, h) := by
  subst hn
  refine zW_in ?_
  show zs (zE d) M Q _ pc lv _ h
  unfold zs
  rw [ht]
  show zo_istore (zE d) M Q (zW (zE d) M Q) pc len r1 r2 r3 ts lv (.int x :: st) h
  unfold zo_istore
  rw [hk]
  exact (H)
theorem zq_istore_c {d : Nat} {M : zM} {Q : zR → zH → Prop} {pc len r1 r2 r3 : Nat} {ts : List Nat} {lv : List (Nat × Value)} {st : List Value} {h : zH} {pc' : Nat} {x : Int32} (ht : M.2.1 pc = some (8, len, r1, r2, r3, ts)) (hn : pc + len = pc')  (H : zW (zE d) M Q (pc', zkp (M.2.2.1 pc') ((r1, .int x) :: zrm lv r1), st, h)) : zW (zE d) M Q (pc, lv, .int x :: st, h) := by
  subst hn
  refine zW_in ?_
  show zs (zE d) M Q _ pc lv _ h
  unfold zs
  rw [ht]
  show zo_istore (zE d) M Q (zW (zE d) M Q) pc len r1 r2 r3 ts lv (.int x :: st) h
  unfold zo_istore
  exact (H)
theorem zq_astore {d : Nat} {M : zM} {Q : zR → zH → Prop} {pc len r1 r2 r3 : Nat} {ts : List Nat} {lv : List (Nat × Value)} {st : List Value} {h : zH} {pc' : Nat} {x : Nat} (ht : M.2.1 pc = some (9, len, r1, r2, r3, ts)) (hn : pc + len = pc') (hk : M.2.2.1 pc' = none)  (H : zW (zE d) M Q (pc', (r1, .ref x) :: zrm lv r1, st, h)) : zW (zE d) M Q (pc, lv, .ref x :: st, h) := by
  subst hn
  refine zW_in ?_
  show zs (zE d) M Q _ pc lv _ h
  unfold zs
  rw [ht]
  show zo_astore (zE d) M Q (zW (zE d) M Q) pc len r1 r2 r3 ts lv (.ref x :: st) h
  unfold zo_astore
  rw [hk]
  exact (H)
theorem zq_astore_c {d : Nat} {M : zM} {Q : zR → zH → Prop} {pc len r1 r2 r3 : Nat} {ts : List Nat} {lv : List (Nat × Value)} {st : List Value} {h : zH} {pc' : Nat} {x : Nat} (ht : M.2.1 pc = some (9, len, r1, r2, r3, ts)) (hn : pc + len = pc')  (H : zW (zE d) M Q (pc', zkp (M.2.2.1 pc') ((r1, .ref x) :: zrm lv r1), st, h)) : zW (zE d) M Q (pc, lv, .ref x :: st, h) := by
  subst hn
  refine zW_in ?_
  show zs (zE d) M Q _ pc lv _ h
  unfold zs
  rw [ht]
  show zo_astore (zE d) M Q (zW (zE d) M Q) pc len r1 r2 r3 ts lv (.ref x :: st) h
  unfold zo_astore
  exact (H)
theorem zq_lstore {d : Nat} {M : zM} {Q : zR → zH → Prop} {pc len r1 r2 r3 : Nat} {ts : List Nat} {lv : List (Nat × Value)} {st : List Value} {h : zH} {pc' : Nat} {x : Int64} (ht : M.2.1 pc = some (10, len, r1, r2, r3, ts)) (hn : pc + len = pc') (hk : M.2.2.1 pc' = none)  (H : zW (zE d) M Q (pc', (r1, .long x) :: zrm (zrm lv r1) (r1 + 1), st, h)) : zW (zE d) M Q (pc, lv, .long x :: st, h) := by
  subst hn
  refine zW_in ?_
  show zs (zE d) M Q _ pc lv _ h
  unfold zs
  rw [ht]
  show zo_lstore (zE d) M Q (zW (zE d) M Q) pc len r1 r2 r3 ts lv (.long x :: st) h
  unfold zo_lstore
  rw [hk]
  exact (H)
theorem zq_lstore_c {d : Nat} {M : zM} {Q : zR → zH → Prop} {pc len r1 r2 r3 : Nat} {ts : List Nat} {lv : List (Nat × Value)} {st : List Value} {h : zH} {pc' : Nat} {x : Int64} (ht : M.2.1 pc = some (10, len, r1, r2, r3, ts)) (hn : pc + len = pc')  (H : zW (zE d) M Q (pc', zkp (M.2.2.1 pc') ((r1, .long x) :: zrm (zrm lv r1) (r1 + 1)), st, h)) : zW (zE d) M Q (pc, lv, .long x :: st, h) := by
  subst hn
  refine zW_in ?_
  show zs (zE d) M Q _ pc lv _ h
  unfold zs
  rw [ht]
  show zo_lstore (zE d) M Q (zW (zE d) M Q) pc len r1 r2 r3 ts lv (.long x :: st) h
  unfold zo_lstore
  exact (H)
theorem zq_iinc {d : Nat} {M : zM} {Q : zR → zH → Prop} {pc len r1 r2 r3 : Nat} {ts : List Nat} {lv : List (Nat × Value)} {st : List Value} {h : zH} {pc' : Nat} {x : Int32} (ht : M.2.1 pc = some (11, len, r1, r2, r3, ts)) (hn : pc + len = pc') (hk : M.2.2.1 pc' = none) (hl : zlk lv r1 = some (.int x)) (H : zW (zE d) M Q (pc', (r1, .int (x + Int32.ofNat r2)) :: zrm lv r1, st, h)) : zW (zE d) M Q (pc, lv, st, h) := by
  subst hn
  refine zW_in ?_
  show zs (zE d) M Q _ pc lv _ h
  unfold zs
  rw [ht]
  show zo_iinc (zE d) M Q (zW (zE d) M Q) pc len r1 r2 r3 ts lv (st) h
  unfold zo_iinc
  rw [hl]
  rw [hk]
  exact (H)
theorem zq_iinc_c {d : Nat} {M : zM} {Q : zR → zH → Prop} {pc len r1 r2 r3 : Nat} {ts : List Nat} {lv : List (Nat × Value)} {st : List Value} {h : zH} {pc' : Nat} {x : Int32} (ht : M.2.1 pc = some (11, len, r1, r2, r3, ts)) (hn : pc + len = pc') (hl : zlk lv r1 = some (.int x)) (H : zW (zE d) M Q (pc', zkp (M.2.2.1 pc') ((r1, .int (x + Int32.ofNat r2)) :: zrm lv r1), st, h)) : zW (zE d) M Q (pc, lv, st, h) := by
  subst hn
  refine zW_in ?_
  show zs (zE d) M Q _ pc lv _ h
  unfold zs
  rw [ht]
  show zo_iinc (zE d) M Q (zW (zE d) M Q) pc len r1 r2 r3 ts lv (st) h
  unfold zo_iinc
  rw [hl]
  exact (H)
theorem zq_iincn {d : Nat} {M : zM} {Q : zR → zH → Prop} {pc len r1 r2 r3 : Nat} {ts : List Nat} {lv : List (Nat × Value)} {st : List Value} {h : zH} {pc' : Nat} {x : Int32} (ht : M.2.1 pc = some (12, len, r1, r2, r3, ts)) (hn : pc + len = pc') (hk : M.2.2.1 pc' = none) (hl : zlk lv r1 = some (.int x)) (H : zW (zE d) M Q (pc', (r1, .int (x + -(Int32.ofNat r2))) :: zrm lv r1, st, h)) : zW (zE d) M Q (pc, lv, st, h) := by
  subst hn
  refine zW_in ?_
  show zs (zE d) M Q _ pc lv _ h
  unfold zs
  rw [ht]
  show zo_iincn (zE d) M Q (zW (zE d) M Q) pc len r1 r2 r3 ts lv (st) h
  unfold zo_iincn
  rw [hl]
  rw [hk]
  exact (H)
theorem zq_iincn_c {d : Nat} {M : zM} {Q : zR → zH → Prop} {pc len r1 r2 r3 : Nat} {ts : List Nat} {lv : List (Nat × Value)} {st : List Value} {h : zH} {pc' : Nat} {x : Int32} (ht : M.2.1 pc = some (12, len, r1, r2, r3, ts)) (hn : pc + len = pc') (hl : zlk lv r1 = some (.int x)) (H : zW (zE d) M Q (pc', zkp (M.2.2.1 pc') ((r1, .int (x + -(Int32.ofNat r2))) :: zrm lv r1), st, h)) : zW (zE d) M Q (pc, lv, st, h) := by
  subst hn
  refine zW_in ?_
  show zs (zE d) M Q _ pc lv _ h
  unfold zs
  rw [ht]
  show zo_iincn (zE d) M Q (zW (zE d) M Q) pc len r1 r2 r3 ts lv (st) h
  unfold zo_iincn
  rw [hl]
  exact (H)
theorem zq_iadd {d : Nat} {M : zM} {Q : zR → zH → Prop} {pc len r1 r2 r3 : Nat} {ts : List Nat} {lv : List (Nat × Value)} {st : List Value} {h : zH} {pc' : Nat} {x y : Int32} (ht : M.2.1 pc = some (13, len, r1, r2, r3, ts)) (hn : pc + len = pc') (hk : M.2.2.1 pc' = none)  (H : zW (zE d) M Q (pc', lv, .int (x + y) :: st, h)) : zW (zE d) M Q (pc, lv, .int y :: .int x :: st, h) := by
  subst hn
  refine zW_in ?_
  show zs (zE d) M Q _ pc lv _ h
  unfold zs
  rw [ht]
  show zo_iadd (zE d) M Q (zW (zE d) M Q) pc len r1 r2 r3 ts lv (.int y :: .int x :: st) h
  unfold zo_iadd
  rw [hk]
  exact (H)
theorem zq_iadd_c {d : Nat} {M : zM} {Q : zR → zH → Prop} {pc len r1 r2 r3 : Nat} {ts : List Nat} {lv : List (Nat × Value)} {st : List Value} {h : zH} {pc' : Nat} {x y : Int32} (ht : M.2.1 pc = some (13, len, r1, r2, r3, ts)) (hn : pc + len = pc')  (H : zW (zE d) M Q (pc', zkp (M.2.2.1 pc') (lv), .int (x + y) :: st, h)) : zW (zE d) M Q (pc, lv, .int y :: .int x :: st, h) := by
  subst hn
  refine zW_in ?_
  show zs (zE d) M Q _ pc lv _ h
  unfold zs
  rw [ht]
  show zo_iadd (zE d) M Q (zW (zE d) M Q) pc len r1 r2 r3 ts lv (.int y :: .int x :: st) h
  unfold zo_iadd
  exact (H)
theorem zq_isub {d : Nat} {M : zM} {Q : zR → zH → Prop} {pc len r1 r2 r3 : Nat} {ts : List Nat} {lv : List (Nat × Value)} {st : List Value} {h : zH} {pc' : Nat} {x y : Int32} (ht : M.2.1 pc = some (14, len, r1, r2, r3, ts)) (hn : pc + len = pc') (hk : M.2.2.1 pc' = none)  (H : zW (zE d) M Q (pc', lv, .int (x - y) :: st, h)) : zW (zE d) M Q (pc, lv, .int y :: .int x :: st, h) := by
  subst hn
  refine zW_in ?_
  show zs (zE d) M Q _ pc lv _ h
  unfold zs
  rw [ht]
  show zo_isub (zE d) M Q (zW (zE d) M Q) pc len r1 r2 r3 ts lv (.int y :: .int x :: st) h
  unfold zo_isub
  rw [hk]
  exact (H)
theorem zq_isub_c {d : Nat} {M : zM} {Q : zR → zH → Prop} {pc len r1 r2 r3 : Nat} {ts : List Nat} {lv : List (Nat × Value)} {st : List Value} {h : zH} {pc' : Nat} {x y : Int32} (ht : M.2.1 pc = some (14, len, r1, r2, r3, ts)) (hn : pc + len = pc')  (H : zW (zE d) M Q (pc', zkp (M.2.2.1 pc') (lv), .int (x - y) :: st, h)) : zW (zE d) M Q (pc, lv, .int y :: .int x :: st, h) := by
  subst hn
  refine zW_in ?_
  show zs (zE d) M Q _ pc lv _ h
  unfold zs
  rw [ht]
  show zo_isub (zE d) M Q (zW (zE d) M Q) pc len r1 r2 r3 ts lv (.int y :: .int x :: st) h
  unfold zo_isub
  exact (H)
theorem zq_imul {d : Nat} {M : zM} {Q : zR → zH → Prop} {pc len r1 r2 r3 : Nat} {ts : List Nat} {lv : List (Nat × Value)} {st : List Value} {h : zH} {pc' : Nat} {x y : Int32} (ht : M.2.1 pc = some (15, len, r1, r2, r3, ts)) (hn : pc + len = pc') (hk : M.2.2.1 pc' = none)  (H : zW (zE d) M Q (pc', lv, .int (x * y) :: st, h)) : zW (zE d) M Q (pc, lv, .int y :: .int x :: st, h) := by
  subst hn
  refine zW_in ?_
  show zs (zE d) M Q _ pc lv _ h
  unfold zs
  rw [ht]
  show zo_imul (zE d) M Q (zW (zE d) M Q) pc len r1 r2 r3 ts lv (.int y :: .int x :: st) h
  unfold zo_imul
  rw [hk]
  exact (H)
theorem zq_imul_c {d : Nat} {M : zM} {Q : zR → zH → Prop} {pc len r1 r2 r3 : Nat} {ts : List Nat} {lv : List (Nat × Value)} {st : List Value} {h : zH} {pc' : Nat} {x y : Int32} (ht : M.2.1 pc = some (15, len, r1, r2, r3, ts)) (hn : pc + len = pc')  (H : zW (zE d) M Q (pc', zkp (M.2.2.1 pc') (lv), .int (x * y) :: st, h)) : zW (zE d) M Q (pc, lv, .int y :: .int x :: st, h) := by
  subst hn
  refine zW_in ?_
  show zs (zE d) M Q _ pc lv _ h
  unfold zs
  rw [ht]
  show zo_imul (zE d) M Q (zW (zE d) M Q) pc len r1 r2 r3 ts lv (.int y :: .int x :: st) h
  unfold zo_imul
  exact (H)
theorem zq_iand {d : Nat} {M : zM} {Q : zR → zH → Prop} {pc len r1 r2 r3 : Nat} {ts : List Nat} {lv : List (Nat × Value)} {st : List Value} {h : zH} {pc' : Nat} {x y : Int32} (ht : M.2.1 pc = some (16, len, r1, r2, r3, ts)) (hn : pc + len = pc') (hk : M.2.2.1 pc' = none)  (H : zW (zE d) M Q (pc', lv, .int (x &&& y) :: st, h)) : zW (zE d) M Q (pc, lv, .int y :: .int x :: st, h) := by
  subst hn
  refine zW_in ?_
  show zs (zE d) M Q _ pc lv _ h
  unfold zs
  rw [ht]
  show zo_iand (zE d) M Q (zW (zE d) M Q) pc len r1 r2 r3 ts lv (.int y :: .int x :: st) h
  unfold zo_iand
  rw [hk]
  exact (H)
theorem zq_iand_c {d : Nat} {M : zM} {Q : zR → zH → Prop} {pc len r1 r2 r3 : Nat} {ts : List Nat} {lv : List (Nat × Value)} {st : List Value} {h : zH} {pc' : Nat} {x y : Int32} (ht : M.2.1 pc = some (16, len, r1, r2, r3, ts)) (hn : pc + len = pc')  (H : zW (zE d) M Q (pc', zkp (M.2.2.1 pc') (lv), .int (x &&& y) :: st, h)) : zW (zE d) M Q (pc, lv, .int y :: .int x :: st, h) := by
  subst hn
  refine zW_in ?_
  show zs (zE d) M Q _ pc lv _ h
  unfold zs
  rw [ht]
  show zo_iand (zE d) M Q (zW (zE d) M Q) pc len r1 r2 r3 ts lv (.int y :: .int x :: st) h
  unfold zo_iand
  exact (H)
theorem zq_ior {d : Nat} {M : zM} {Q : zR → zH → Prop} {pc len r1 r2 r3 : Nat} {ts : List Nat} {lv : List (Nat × Value)} {st : List Value} {h : zH} {pc' : Nat} {x y : Int32} (ht : M.2.1 pc = some (17, len, r1, r2, r3, ts)) (hn : pc + len = pc') (hk : M.2.2.1 pc' = none)  (H : zW (zE d) M Q (pc', lv, .int (x ||| y) :: st, h)) : zW (zE d) M Q (pc, lv, .int y :: .int x :: st, h) := by
  subst hn
  refine zW_in ?_
  show zs (zE d) M Q _ pc lv _ h
  unfold zs
  rw [ht]
  show zo_ior (zE d) M Q (zW (zE d) M Q) pc len r1 r2 r3 ts lv (.int y :: .int x :: st) h
  unfold zo_ior
  rw [hk]
  exact (H)
theorem zq_ior_c {d : Nat} {M : zM} {Q : zR → zH → Prop} {pc len r1 r2 r3 : Nat} {ts : List Nat} {lv : List (Nat × Value)} {st : List Value} {h : zH} {pc' : Nat} {x y : Int32} (ht : M.2.1 pc = some (17, len, r1, r2, r3, ts)) (hn : pc + len = pc')  (H : zW (zE d) M Q (pc', zkp (M.2.2.1 pc') (lv), .int (x ||| y) :: st, h)) : zW (zE d) M Q (pc, lv, .int y :: .int x :: st, h) := by
  subst hn
  refine zW_in ?_
  show zs (zE d) M Q _ pc lv _ h
  unfold zs
  rw [ht]
  show zo_ior (zE d) M Q (zW (zE d) M Q) pc len r1 r2 r3 ts lv (.int y :: .int x :: st) h
  unfold zo_ior
  exact (H)
theorem zq_ixor {d : Nat} {M : zM} {Q : zR → zH → Prop} {pc len r1 r2 r3 : Nat} {ts : List Nat} {lv : List (Nat × Value)} {st : List Value} {h : zH} {pc' : Nat} {x y : Int32} (ht : M.2.1 pc = some (18, len, r1, r2, r3, ts)) (hn : pc + len = pc') (hk : M.2.2.1 pc' = none)  (H : zW (zE d) M Q (pc', lv, .int (x ^^^ y) :: st, h)) : zW (zE d) M Q (pc, lv, .int y :: .int x :: st, h) := by
  subst hn
  refine zW_in ?_
  show zs (zE d) M Q _ pc lv _ h
  unfold zs
  rw [ht]
  show zo_ixor (zE d) M Q (zW (zE d) M Q) pc len r1 r2 r3 ts lv (.int y :: .int x :: st) h
  unfold zo_ixor
  rw [hk]
  exact (H)
theorem zq_ixor_c {d : Nat} {M : zM} {Q : zR → zH → Prop} {pc len r1 r2 r3 : Nat} {ts : List Nat} {lv : List (Nat × Value)} {st : List Value} {h : zH} {pc' : Nat} {x y : Int32} (ht : M.2.1 pc = some (18, len, r1, r2, r3, ts)) (hn : pc + len = pc')  (H : zW (zE d) M Q (pc', zkp (M.2.2.1 pc') (lv), .int (x ^^^ y) :: st, h)) : zW (zE d) M Q (pc, lv, .int y :: .int x :: st, h) := by
  subst hn
  refine zW_in ?_
  show zs (zE d) M Q _ pc lv _ h
  unfold zs
  rw [ht]
  show zo_ixor (zE d) M Q (zW (zE d) M Q) pc len r1 r2 r3 ts lv (.int y :: .int x :: st) h
  unfold zo_ixor
  exact (H)
theorem zq_ishl {d : Nat} {M : zM} {Q : zR → zH → Prop} {pc len r1 r2 r3 : Nat} {ts : List Nat} {lv : List (Nat × Value)} {st : List Value} {h : zH} {pc' : Nat} {x y : Int32} (ht : M.2.1 pc = some (19, len, r1, r2, r3, ts)) (hn : pc + len = pc') (hk : M.2.2.1 pc' = none)  (H : zW (zE d) M Q (pc', lv, .int (x <<< (y &&& 31)) :: st, h)) : zW (zE d) M Q (pc, lv, .int y :: .int x :: st, h) := by
  subst hn
  refine zW_in ?_
  show zs (zE d) M Q _ pc lv _ h
  unfold zs
  rw [ht]
  show zo_ishl (zE d) M Q (zW (zE d) M Q) pc len r1 r2 r3 ts lv (.int y :: .int x :: st) h
  unfold zo_ishl
  rw [hk]
  exact (H)
theorem zq_ishl_c {d : Nat} {M : zM} {Q : zR → zH → Prop} {pc len r1 r2 r3 : Nat} {ts : List Nat} {lv : List (Nat × Value)} {st : List Value} {h : zH} {pc' : Nat} {x y : Int32} (ht : M.2.1 pc = some (19, len, r1, r2, r3, ts)) (hn : pc + len = pc')  (H : zW (zE d) M Q (pc', zkp (M.2.2.1 pc') (lv), .int (x <<< (y &&& 31)) :: st, h)) : zW (zE d) M Q (pc, lv, .int y :: .int x :: st, h) := by
  subst hn
  refine zW_in ?_
  show zs (zE d) M Q _ pc lv _ h
  unfold zs
  rw [ht]
  show zo_ishl (zE d) M Q (zW (zE d) M Q) pc len r1 r2 r3 ts lv (.int y :: .int x :: st) h
  unfold zo_ishl
  exact (H)
theorem zq_ishr {d : Nat} {M : zM} {Q : zR → zH → Prop} {pc len r1 r2 r3 : Nat} {ts : List Nat} {lv : List (Nat × Value)} {st : List Value} {h : zH} {pc' : Nat} {x y : Int32} (ht : M.2.1 pc = some (20, len, r1, r2, r3, ts)) (hn : pc + len = pc') (hk : M.2.2.1 pc' = none)  (H : zW (zE d) M Q (pc', lv, .int (x >>> (y &&& 31)) :: st, h)) : zW (zE d) M Q (pc, lv, .int y :: .int x :: st, h) := by
  subst hn
  refine zW_in ?_
  show zs (zE d) M Q _ pc lv _ h
  unfold zs
  rw [ht]
  show zo_ishr (zE d) M Q (zW (zE d) M Q) pc len r1 r2 r3 ts lv (.int y :: .int x :: st) h
  unfold zo_ishr
  rw [hk]
  exact (H)
theorem zq_ishr_c {d : Nat} {M : zM} {Q : zR → zH → Prop} {pc len r1 r2 r3 : Nat} {ts : List Nat} {lv : List (Nat × Value)} {st : List Value} {h : zH} {pc' : Nat} {x y : Int32} (ht : M.2.1 pc = some (20, len, r1, r2, r3, ts)) (hn : pc + len = pc')  (H : zW (zE d) M Q (pc', zkp (M.2.2.1 pc') (lv), .int (x >>> (y &&& 31)) :: st, h)) : zW (zE d) M Q (pc, lv, .int y :: .int x :: st, h) := by
  subst hn
  refine zW_in ?_
  show zs (zE d) M Q _ pc lv _ h
  unfold zs
  rw [ht]
  show zo_ishr (zE d) M Q (zW (zE d) M Q) pc len r1 r2 r3 ts lv (.int y :: .int x :: st) h
  unfold zo_ishr
  exact (H)
theorem zq_iushr {d : Nat} {M : zM} {Q : zR → zH → Prop} {pc len r1 r2 r3 : Nat} {ts : List Nat} {lv : List (Nat × Value)} {st : List Value} {h : zH} {pc' : Nat} {x y : Int32} (ht : M.2.1 pc = some (21, len, r1, r2, r3, ts)) (hn : pc + len = pc') (hk : M.2.2.1 pc' = none)  (H : zW (zE d) M Q (pc', lv, .int ((x.toUInt32 >>> (y.toUInt32 &&& Int32.toUInt32 31)).toInt32) :: st, h)) : zW (zE d) M Q (pc, lv, .int y :: .int x :: st, h) := by
  subst hn
  refine zW_in ?_
  show zs (zE d) M Q _ pc lv _ h
  unfold zs
  rw [ht]
  show zo_iushr (zE d) M Q (zW (zE d) M Q) pc len r1 r2 r3 ts lv (.int y :: .int x :: st) h
  unfold zo_iushr
  rw [hk]
  exact (H)
theorem zq_iushr_c {d : Nat} {M : zM} {Q : zR → zH → Prop} {pc len r1 r2 r3 : Nat} {ts : List Nat} {lv : List (Nat × Value)} {st : List Value} {h : zH} {pc' : Nat} {x y : Int32} (ht : M.2.1 pc = some (21, len, r1, r2, r3, ts)) (hn : pc + len = pc')  (H : zW (zE d) M Q (pc', zkp (M.2.2.1 pc') (lv), .int ((x.toUInt32 >>> (y.toUInt32 &&& Int32.toUInt32 31)).toInt32) :: st, h)) : zW (zE d) M Q (pc, lv, .int y :: .int x :: st, h) := by
  subst hn
  refine zW_in ?_
  show zs (zE d) M Q _ pc lv _ h
  unfold zs
  rw [ht]
  show zo_iushr (zE d) M Q (zW (zE d) M Q) pc len r1 r2 r3 ts lv (.int y :: .int x :: st) h
  unfold zo_iushr
  exact (H)
theorem zq_idiv {d : Nat} {M : zM} {Q : zR → zH → Prop} {pc len r1 r2 r3 : Nat} {ts : List Nat} {lv : List (Nat × Value)} {st : List Value} {h : zH} {pc' : Nat} {x y : Int32} (ht : M.2.1 pc = some (22, len, r1, r2, r3, ts)) (hn : pc + len = pc') (hk : M.2.2.1 pc' = none) (h0 : ¬ y = 0) (H : zW (zE d) M Q (pc', lv, .int (x / y) :: st, h)) : zW (zE d) M Q (pc, lv, .int y :: .int x :: st, h) := by
  subst hn
  refine zW_in ?_
  show zs (zE d) M Q _ pc lv _ h
  unfold zs
  rw [ht]
  show zo_idiv (zE d) M Q (zW (zE d) M Q) pc len r1 r2 r3 ts lv (.int y :: .int x :: st) h
  unfold zo_idiv
  rw [hk]
  exact ⟨h0, H⟩
theorem zq_idiv_c {d : Nat} {M : zM} {Q : zR → zH → Prop} {pc len r1 r2 r3 : Nat} {ts : List Nat} {lv : List (Nat × Value)} {st : List Value} {h : zH} {pc' : Nat} {x y : Int32} (ht : M.2.1 pc = some (22, len, r1, r2, r3, ts)) (hn : pc + len = pc') (h0 : ¬ y = 0) (H : zW (zE d) M Q (pc', zkp (M.2.2.1 pc') (lv), .int (x / y) :: st, h)) : zW (zE d) M Q (pc, lv, .int y :: .int x :: st, h) := by
  subst hn
  refine zW_in ?_
  show zs (zE d) M Q _ pc lv _ h
  unfold zs
  rw [ht]
  show zo_idiv (zE d) M Q (zW (zE d) M Q) pc len r1 r2 r3 ts lv (.int y :: .int x :: st) h
  unfold zo_idiv
  exact ⟨h0, H⟩
theorem zq_irem {d : Nat} {M : zM} {Q : zR → zH → Prop} {pc len r1 r2 r3 : Nat} {ts : List Nat} {lv : List (Nat × Value)} {st : List Value} {h : zH} {pc' : Nat} {x y : Int32} (ht : M.2.1 pc = some (23, len, r1, r2, r3, ts)) (hn : pc + len = pc') (hk : M.2.2.1 pc' = none) (h0 : ¬ y = 0) (H : zW (zE d) M Q (pc', lv, .int (x - x / y * y) :: st, h)) : zW (zE d) M Q (pc, lv, .int y :: .int x :: st, h) := by
  subst hn
  refine zW_in ?_
  show zs (zE d) M Q _ pc lv _ h
  unfold zs
  rw [ht]
  show zo_irem (zE d) M Q (zW (zE d) M Q) pc len r1 r2 r3 ts lv (.int y :: .int x :: st) h
  unfold zo_irem
  rw [hk]
  exact ⟨h0, H⟩
theorem zq_irem_c {d : Nat} {M : zM} {Q : zR → zH → Prop} {pc len r1 r2 r3 : Nat} {ts : List Nat} {lv : List (Nat × Value)} {st : List Value} {h : zH} {pc' : Nat} {x y : Int32} (ht : M.2.1 pc = some (23, len, r1, r2, r3, ts)) (hn : pc + len = pc') (h0 : ¬ y = 0) (H : zW (zE d) M Q (pc', zkp (M.2.2.1 pc') (lv), .int (x - x / y * y) :: st, h)) : zW (zE d) M Q (pc, lv, .int y :: .int x :: st, h) := by
  subst hn
  refine zW_in ?_
  show zs (zE d) M Q _ pc lv _ h
  unfold zs
  rw [ht]
  show zo_irem (zE d) M Q (zW (zE d) M Q) pc len r1 r2 r3 ts lv (.int y :: .int x :: st) h
  unfold zo_irem
  exact ⟨h0, H⟩
theorem zq_land {d : Nat} {M : zM} {Q : zR → zH → Prop} {pc len r1 r2 r3 : Nat} {ts : List Nat} {lv : List (Nat × Value)} {st : List Value} {h : zH} {pc' : Nat} {x y : Int64} (ht : M.2.1 pc = some (24, len, r1, r2, r3, ts)) (hn : pc + len = pc') (hk : M.2.2.1 pc' = none)  (H : zW (zE d) M Q (pc', lv, .long (x &&& y) :: st, h)) : zW (zE d) M Q (pc, lv, .long y :: .long x :: st, h) := by
  subst hn
  refine zW_in ?_
  show zs (zE d) M Q _ pc lv _ h
  unfold zs
  rw [ht]
  show zo_land (zE d) M Q (zW (zE d) M Q) pc len r1 r2 r3 ts lv (.long y :: .long x :: st) h
  unfold zo_land
  rw [hk]
  exact (H)
theorem zq_land_c {d : Nat} {M : zM} {Q : zR → zH → Prop} {pc len r1 r2 r3 : Nat} {ts : List Nat} {lv : List (Nat × Value)} {st : List Value} {h : zH} {pc' : Nat} {x y : Int64} (ht : M.2.1 pc = some (24, len, r1, r2, r3, ts)) (hn : pc + len = pc')  (H : zW (zE d) M Q (pc', zkp (M.2.2.1 pc') (lv), .long (x &&& y) :: st, h)) : zW (zE d) M Q (pc, lv, .long y :: .long x :: st, h) := by
  subst hn
  refine zW_in ?_
  show zs (zE d) M Q _ pc lv _ h
  unfold zs
  rw [ht]
  show zo_land (zE d) M Q (zW (zE d) M Q) pc len r1 r2 r3 ts lv (.long y :: .long x :: st) h
  unfold zo_land
  exact (H)
theorem zq_lor {d : Nat} {M : zM} {Q : zR → zH → Prop} {pc len r1 r2 r3 : Nat} {ts : List Nat} {lv : List (Nat × Value)} {st : List Value} {h : zH} {pc' : Nat} {x y : Int64} (ht : M.2.1 pc = some (25, len, r1, r2, r3, ts)) (hn : pc + len = pc') (hk : M.2.2.1 pc' = none)  (H : zW (zE d) M Q (pc', lv, .long (x ||| y) :: st, h)) : zW (zE d) M Q (pc, lv, .long y :: .long x :: st, h) := by
  subst hn
  refine zW_in ?_
  show zs (zE d) M Q _ pc lv _ h
  unfold zs
  rw [ht]
  show zo_lor (zE d) M Q (zW (zE d) M Q) pc len r1 r2 r3 ts lv (.long y :: .long x :: st) h
  unfold zo_lor
  rw [hk]
  exact (H)
theorem zq_lor_c {d : Nat} {M : zM} {Q : zR → zH → Prop} {pc len r1 r2 r3 : Nat} {ts : List Nat} {lv : List (Nat × Value)} {st : List Value} {h : zH} {pc' : Nat} {x y : Int64} (ht : M.2.1 pc = some (25, len, r1, r2, r3, ts)) (hn : pc + len = pc')  (H : zW (zE d) M Q (pc', zkp (M.2.2.1 pc') (lv), .long (x ||| y) :: st, h)) : zW (zE d) M Q (pc, lv, .long y :: .long x :: st, h) := by
  subst hn
  refine zW_in ?_
  show zs (zE d) M Q _ pc lv _ h
  unfold zs
  rw [ht]
  show zo_lor (zE d) M Q (zW (zE d) M Q) pc len r1 r2 r3 ts lv (.long y :: .long x :: st) h
  unfold zo_lor
  exact (H)
theorem zq_lxor {d : Nat} {M : zM} {Q : zR → zH → Prop} {pc len r1 r2 r3 : Nat} {ts : List Nat} {lv : List (Nat × Value)} {st : List Value} {h : zH} {pc' : Nat} {x y : Int64} (ht : M.2.1 pc = some (26, len, r1, r2, r3, ts)) (hn : pc + len = pc') (hk : M.2.2.1 pc' = none)  (H : zW (zE d) M Q (pc', lv, .long (x ^^^ y) :: st, h)) : zW (zE d) M Q (pc, lv, .long y :: .long x :: st, h) := by
  subst hn
  refine zW_in ?_
  show zs (zE d) M Q _ pc lv _ h
  unfold zs
  rw [ht]
  show zo_lxor (zE d) M Q (zW (zE d) M Q) pc len r1 r2 r3 ts lv (.long y :: .long x :: st) h
  unfold zo_lxor
  rw [hk]
  exact (H)
theorem zq_lxor_c {d : Nat} {M : zM} {Q : zR → zH → Prop} {pc len r1 r2 r3 : Nat} {ts : List Nat} {lv : List (Nat × Value)} {st : List Value} {h : zH} {pc' : Nat} {x y : Int64} (ht : M.2.1 pc = some (26, len, r1, r2, r3, ts)) (hn : pc + len = pc')  (H : zW (zE d) M Q (pc', zkp (M.2.2.1 pc') (lv), .long (x ^^^ y) :: st, h)) : zW (zE d) M Q (pc, lv, .long y :: .long x :: st, h) := by
  subst hn
  refine zW_in ?_
  show zs (zE d) M Q _ pc lv _ h
  unfold zs
  rw [ht]
  show zo_lxor (zE d) M Q (zW (zE d) M Q) pc len r1 r2 r3 ts lv (.long y :: .long x :: st) h
  unfold zo_lxor
  exact (H)
theorem zq_lshl {d : Nat} {M : zM} {Q : zR → zH → Prop} {pc len r1 r2 r3 : Nat} {ts : List Nat} {lv : List (Nat × Value)} {st : List Value} {h : zH} {pc' : Nat} {x : Int64} {y : Int32} (ht : M.2.1 pc = some (27, len, r1, r2, r3, ts)) (hn : pc + len = pc') (hk : M.2.2.1 pc' = none)  (H : zW (zE d) M Q (pc', lv, .long (x <<< (y.toInt64 &&& 63)) :: st, h)) : zW (zE d) M Q (pc, lv, .int y :: .long x :: st, h) := by
  subst hn
  refine zW_in ?_
  show zs (zE d) M Q _ pc lv _ h
  unfold zs
  rw [ht]
  show zo_lshl (zE d) M Q (zW (zE d) M Q) pc len r1 r2 r3 ts lv (.int y :: .long x :: st) h
  unfold zo_lshl
  rw [hk]
  exact (H)
theorem zq_lshl_c {d : Nat} {M : zM} {Q : zR → zH → Prop} {pc len r1 r2 r3 : Nat} {ts : List Nat} {lv : List (Nat × Value)} {st : List Value} {h : zH} {pc' : Nat} {x : Int64} {y : Int32} (ht : M.2.1 pc = some (27, len, r1, r2, r3, ts)) (hn : pc + len = pc')  (H : zW (zE d) M Q (pc', zkp (M.2.2.1 pc') (lv), .long (x <<< (y.toInt64 &&& 63)) :: st, h)) : zW (zE d) M Q (pc, lv, .int y :: .long x :: st, h) := by
  subst hn
  refine zW_in ?_
  show zs (zE d) M Q _ pc lv _ h
  unfold zs
  rw [ht]
  show zo_lshl (zE d) M Q (zW (zE d) M Q) pc len r1 r2 r3 ts lv (.int y :: .long x :: st) h
  unfold zo_lshl
  exact (H)
theorem zq_lushr {d : Nat} {M : zM} {Q : zR → zH → Prop} {pc len r1 r2 r3 : Nat} {ts : List Nat} {lv : List (Nat × Value)} {st : List Value} {h : zH} {pc' : Nat} {x : Int64} {y : Int32} (ht : M.2.1 pc = some (28, len, r1, r2, r3, ts)) (hn : pc + len = pc') (hk : M.2.2.1 pc' = none)  (H : zW (zE d) M Q (pc', lv, .long ((x.toUInt64 >>> (y.toInt64.toUInt64 &&& Int64.toUInt64 63)).toInt64) :: st, h)) : zW (zE d) M Q (pc, lv, .int y :: .long x :: st, h) := by
  subst hn
  refine zW_in ?_
  show zs (zE d) M Q _ pc lv _ h
  unfold zs
  rw [ht]
  show zo_lushr (zE d) M Q (zW (zE d) M Q) pc len r1 r2 r3 ts lv (.int y :: .long x :: st) h
  unfold zo_lushr
  rw [hk]
  exact (H)
theorem zq_lushr_c {d : Nat} {M : zM} {Q : zR → zH → Prop} {pc len r1 r2 r3 : Nat} {ts : List Nat} {lv : List (Nat × Value)} {st : List Value} {h : zH} {pc' : Nat} {x : Int64} {y : Int32} (ht : M.2.1 pc = some (28, len, r1, r2, r3, ts)) (hn : pc + len = pc')  (H : zW (zE d) M Q (pc', zkp (M.2.2.1 pc') (lv), .long ((x.toUInt64 >>> (y.toInt64.toUInt64 &&& Int64.toUInt64 63)).toInt64) :: st, h)) : zW (zE d) M Q (pc, lv, .int y :: .long x :: st, h) := by
  subst hn
  refine zW_in ?_
  show zs (zE d) M Q _ pc lv _ h
  unfold zs
  rw [ht]
  show zo_lushr (zE d) M Q (zW (zE d) M Q) pc len r1 r2 r3 ts lv (.int y :: .long x :: st) h
  unfold zo_lushr
  exact (H)
theorem zq_lcmp {d : Nat} {M : zM} {Q : zR → zH → Prop} {pc len r1 r2 r3 : Nat} {ts : List Nat} {lv : List (Nat × Value)} {st : List Value} {h : zH} {pc' : Nat} {x y : Int64} (ht : M.2.1 pc = some (29, len, r1, r2, r3, ts)) (hn : pc + len = pc') (hk : M.2.2.1 pc' = none)  (H : zW (zE d) M Q (pc', lv, .int (lg_cmp x y) :: st, h)) : zW (zE d) M Q (pc, lv, .long y :: .long x :: st, h) := by
  subst hn
  refine zW_in ?_
  show zs (zE d) M Q _ pc lv _ h
  unfold zs
  rw [ht]
  show zo_lcmp (zE d) M Q (zW (zE d) M Q) pc len r1 r2 r3 ts lv (.long y :: .long x :: st) h
  unfold zo_lcmp
  rw [hk]
  exact (H)
theorem zq_lcmp_c {d : Nat} {M : zM} {Q : zR → zH → Prop} {pc len r1 r2 r3 : Nat} {ts : List Nat} {lv : List (Nat × Value)} {st : List Value} {h : zH} {pc' : Nat} {x y : Int64} (ht : M.2.1 pc = some (29, len, r1, r2, r3, ts)) (hn : pc + len = pc')  (H : zW (zE d) M Q (pc', zkp (M.2.2.1 pc') (lv), .int (lg_cmp x y) :: st, h)) : zW (zE d) M Q (pc, lv, .long y :: .long x :: st, h) := by
  subst hn
  refine zW_in ?_
  show zs (zE d) M Q _ pc lv _ h
  unfold zs
  rw [ht]
  show zo_lcmp (zE d) M Q (zW (zE d) M Q) pc len r1 r2 r3 ts lv (.long y :: .long x :: st) h
  unfold zo_lcmp
  exact (H)
theorem zq_i2l {d : Nat} {M : zM} {Q : zR → zH → Prop} {pc len r1 r2 r3 : Nat} {ts : List Nat} {lv : List (Nat × Value)} {st : List Value} {h : zH} {pc' : Nat} {x : Int32} (ht : M.2.1 pc = some (30, len, r1, r2, r3, ts)) (hn : pc + len = pc') (hk : M.2.2.1 pc' = none)  (H : zW (zE d) M Q (pc', lv, .long x.toInt64 :: st, h)) : zW (zE d) M Q (pc, lv, .int x :: st, h) := by
  subst hn
  refine zW_in ?_
  show zs (zE d) M Q _ pc lv _ h
  unfold zs
  rw [ht]
  show zo_i2l (zE d) M Q (zW (zE d) M Q) pc len r1 r2 r3 ts lv (.int x :: st) h
  unfold zo_i2l
  rw [hk]
  exact (H)
theorem zq_i2l_c {d : Nat} {M : zM} {Q : zR → zH → Prop} {pc len r1 r2 r3 : Nat} {ts : List Nat} {lv : List (Nat × Value)} {st : List Value} {h : zH} {pc' : Nat} {x : Int32} (ht : M.2.1 pc = some (30, len, r1, r2, r3, ts)) (hn : pc + len = pc')  (H : zW (zE d) M Q (pc', zkp (M.2.2.1 pc') (lv), .long x.toInt64 :: st, h)) : zW (zE d) M Q (pc, lv, .int x :: st, h) := by
  subst hn
  refine zW_in ?_
  show zs (zE d) M Q _ pc lv _ h
  unfold zs
  rw [ht]
  show zo_i2l (zE d) M Q (zW (zE d) M Q) pc len r1 r2 r3 ts lv (.int x :: st) h
  unfold zo_i2l
  exact (H)
theorem zq_i2b {d : Nat} {M : zM} {Q : zR → zH → Prop} {pc len r1 r2 r3 : Nat} {ts : List Nat} {lv : List (Nat × Value)} {st : List Value} {h : zH} {pc' : Nat} {x : Int32} (ht : M.2.1 pc = some (31, len, r1, r2, r3, ts)) (hn : pc + len = pc') (hk : M.2.2.1 pc' = none)  (H : zW (zE d) M Q (pc', lv, .int x.toInt8.toInt32 :: st, h)) : zW (zE d) M Q (pc, lv, .int x :: st, h) := by
  subst hn
  refine zW_in ?_
  show zs (zE d) M Q _ pc lv _ h
  unfold zs
  rw [ht]
  show zo_i2b (zE d) M Q (zW (zE d) M Q) pc len r1 r2 r3 ts lv (.int x :: st) h
  unfold zo_i2b
  rw [hk]
  exact (H)
theorem zq_i2b_c {d : Nat} {M : zM} {Q : zR → zH → Prop} {pc len r1 r2 r3 : Nat} {ts : List Nat} {lv : List (Nat × Value)} {st : List Value} {h : zH} {pc' : Nat} {x : Int32} (ht : M.2.1 pc = some (31, len, r1, r2, r3, ts)) (hn : pc + len = pc')  (H : zW (zE d) M Q (pc', zkp (M.2.2.1 pc') (lv), .int x.toInt8.toInt32 :: st, h)) : zW (zE d) M Q (pc, lv, .int x :: st, h) := by
  subst hn
  refine zW_in ?_
  show zs (zE d) M Q _ pc lv _ h
  unfold zs
  rw [ht]
  show zo_i2b (zE d) M Q (zW (zE d) M Q) pc len r1 r2 r3 ts lv (.int x :: st) h
  unfold zo_i2b
  exact (H)
theorem zq_i2c {d : Nat} {M : zM} {Q : zR → zH → Prop} {pc len r1 r2 r3 : Nat} {ts : List Nat} {lv : List (Nat × Value)} {st : List Value} {h : zH} {pc' : Nat} {x : Int32} (ht : M.2.1 pc = some (32, len, r1, r2, r3, ts)) (hn : pc + len = pc') (hk : M.2.2.1 pc' = none)  (H : zW (zE d) M Q (pc', lv, .int (x.toUInt32 % 65536).toInt32 :: st, h)) : zW (zE d) M Q (pc, lv, .int x :: st, h) := by
  subst hn
  refine zW_in ?_
  show zs (zE d) M Q _ pc lv _ h
  unfold zs
  rw [ht]
  show zo_i2c (zE d) M Q (zW (zE d) M Q) pc len r1 r2 r3 ts lv (.int x :: st) h
  unfold zo_i2c
  rw [hk]
  exact (H)
theorem zq_i2c_c {d : Nat} {M : zM} {Q : zR → zH → Prop} {pc len r1 r2 r3 : Nat} {ts : List Nat} {lv : List (Nat × Value)} {st : List Value} {h : zH} {pc' : Nat} {x : Int32} (ht : M.2.1 pc = some (32, len, r1, r2, r3, ts)) (hn : pc + len = pc')  (H : zW (zE d) M Q (pc', zkp (M.2.2.1 pc') (lv), .int (x.toUInt32 % 65536).toInt32 :: st, h)) : zW (zE d) M Q (pc, lv, .int x :: st, h) := by
  subst hn
  refine zW_in ?_
  show zs (zE d) M Q _ pc lv _ h
  unfold zs
  rw [ht]
  show zo_i2c (zE d) M Q (zW (zE d) M Q) pc len r1 r2 r3 ts lv (.int x :: st) h
  unfold zo_i2c
  exact (H)
theorem zq_ineg {d : Nat} {M : zM} {Q : zR → zH → Prop} {pc len r1 r2 r3 : Nat} {ts : List Nat} {lv : List (Nat × Value)} {st : List Value} {h : zH} {pc' : Nat} {x : Int32} (ht : M.2.1 pc = some (33, len, r1, r2, r3, ts)) (hn : pc + len = pc') (hk : M.2.2.1 pc' = none)  (H : zW (zE d) M Q (pc', lv, .int (-x) :: st, h)) : zW (zE d) M Q (pc, lv, .int x :: st, h) := by
  subst hn
  refine zW_in ?_
  show zs (zE d) M Q _ pc lv _ h
  unfold zs
  rw [ht]
  show zo_ineg (zE d) M Q (zW (zE d) M Q) pc len r1 r2 r3 ts lv (.int x :: st) h
  unfold zo_ineg
  rw [hk]
  exact (H)
theorem zq_ineg_c {d : Nat} {M : zM} {Q : zR → zH → Prop} {pc len r1 r2 r3 : Nat} {ts : List Nat} {lv : List (Nat × Value)} {st : List Value} {h : zH} {pc' : Nat} {x : Int32} (ht : M.2.1 pc = some (33, len, r1, r2, r3, ts)) (hn : pc + len = pc')  (H : zW (zE d) M Q (pc', zkp (M.2.2.1 pc') (lv), .int (-x) :: st, h)) : zW (zE d) M Q (pc, lv, .int x :: st, h) := by
  subst hn
  refine zW_in ?_
  show zs (zE d) M Q _ pc lv _ h
  unfold zs
  rw [ht]
  show zo_ineg (zE d) M Q (zW (zE d) M Q) pc len r1 r2 r3 ts lv (.int x :: st) h
  unfold zo_ineg
  exact (H)
theorem zq_l2i {d : Nat} {M : zM} {Q : zR → zH → Prop} {pc len r1 r2 r3 : Nat} {ts : List Nat} {lv : List (Nat × Value)} {st : List Value} {h : zH} {pc' : Nat} {x : Int64} (ht : M.2.1 pc = some (34, len, r1, r2, r3, ts)) (hn : pc + len = pc') (hk : M.2.2.1 pc' = none)  (H : zW (zE d) M Q (pc', lv, .int x.toInt32 :: st, h)) : zW (zE d) M Q (pc, lv, .long x :: st, h) := by
  subst hn
  refine zW_in ?_
  show zs (zE d) M Q _ pc lv _ h
  unfold zs
  rw [ht]
  show zo_l2i (zE d) M Q (zW (zE d) M Q) pc len r1 r2 r3 ts lv (.long x :: st) h
  unfold zo_l2i
  rw [hk]
  exact (H)
theorem zq_l2i_c {d : Nat} {M : zM} {Q : zR → zH → Prop} {pc len r1 r2 r3 : Nat} {ts : List Nat} {lv : List (Nat × Value)} {st : List Value} {h : zH} {pc' : Nat} {x : Int64} (ht : M.2.1 pc = some (34, len, r1, r2, r3, ts)) (hn : pc + len = pc')  (H : zW (zE d) M Q (pc', zkp (M.2.2.1 pc') (lv), .int x.toInt32 :: st, h)) : zW (zE d) M Q (pc, lv, .long x :: st, h) := by
  subst hn
  refine zW_in ?_
  show zs (zE d) M Q _ pc lv _ h
  unfold zs
  rw [ht]
  show zo_l2i (zE d) M Q (zW (zE d) M Q) pc len r1 r2 r3 ts lv (.long x :: st) h
  unfold zo_l2i
  exact (H)
theorem zq_dup {d : Nat} {M : zM} {Q : zR → zH → Prop} {pc len r1 r2 r3 : Nat} {ts : List Nat} {lv : List (Nat × Value)} {st : List Value} {h : zH} {pc' : Nat} {v : Value} (ht : M.2.1 pc = some (35, len, r1, r2, r3, ts)) (hn : pc + len = pc') (hk : M.2.2.1 pc' = none) (h0 : zc2 v = false) (H : zW (zE d) M Q (pc', lv, v :: v :: st, h)) : zW (zE d) M Q (pc, lv, v :: st, h) := by
  subst hn
  refine zW_in ?_
  show zs (zE d) M Q _ pc lv _ h
  unfold zs
  rw [ht]
  show zo_dup (zE d) M Q (zW (zE d) M Q) pc len r1 r2 r3 ts lv (v :: st) h
  unfold zo_dup
  rw [hk]
  exact ⟨h0, H⟩
theorem zq_dup_c {d : Nat} {M : zM} {Q : zR → zH → Prop} {pc len r1 r2 r3 : Nat} {ts : List Nat} {lv : List (Nat × Value)} {st : List Value} {h : zH} {pc' : Nat} {v : Value} (ht : M.2.1 pc = some (35, len, r1, r2, r3, ts)) (hn : pc + len = pc') (h0 : zc2 v = false) (H : zW (zE d) M Q (pc', zkp (M.2.2.1 pc') (lv), v :: v :: st, h)) : zW (zE d) M Q (pc, lv, v :: st, h) := by
  subst hn
  refine zW_in ?_
  show zs (zE d) M Q _ pc lv _ h
  unfold zs
  rw [ht]
  show zo_dup (zE d) M Q (zW (zE d) M Q) pc len r1 r2 r3 ts lv (v :: st) h
  unfold zo_dup
  exact ⟨h0, H⟩
theorem zq_dup2 {d : Nat} {M : zM} {Q : zR → zH → Prop} {pc len r1 r2 r3 : Nat} {ts : List Nat} {lv : List (Nat × Value)} {st : List Value} {h : zH} {pc' : Nat} {v w : Value} (ht : M.2.1 pc = some (36, len, r1, r2, r3, ts)) (hn : pc + len = pc') (hk : M.2.2.1 pc' = none) (h0 : zc2 v = false) (h1 : zc2 w = false) (H : zW (zE d) M Q (pc', lv, v :: w :: v :: w :: st, h)) : zW (zE d) M Q (pc, lv, v :: w :: st, h) := by
  subst hn
  refine zW_in ?_
  show zs (zE d) M Q _ pc lv _ h
  unfold zs
  rw [ht]
  show zo_dup2 (zE d) M Q (zW (zE d) M Q) pc len r1 r2 r3 ts lv (v :: w :: st) h
  unfold zo_dup2
  rw [hk]
  exact ⟨h0, h1, H⟩
theorem zq_dup2_c {d : Nat} {M : zM} {Q : zR → zH → Prop} {pc len r1 r2 r3 : Nat} {ts : List Nat} {lv : List (Nat × Value)} {st : List Value} {h : zH} {pc' : Nat} {v w : Value} (ht : M.2.1 pc = some (36, len, r1, r2, r3, ts)) (hn : pc + len = pc') (h0 : zc2 v = false) (h1 : zc2 w = false) (H : zW (zE d) M Q (pc', zkp (M.2.2.1 pc') (lv), v :: w :: v :: w :: st, h)) : zW (zE d) M Q (pc, lv, v :: w :: st, h) := by
  subst hn
  refine zW_in ?_
  show zs (zE d) M Q _ pc lv _ h
  unfold zs
  rw [ht]
  show zo_dup2 (zE d) M Q (zW (zE d) M Q) pc len r1 r2 r3 ts lv (v :: w :: st) h
  unfold zo_dup2
  exact ⟨h0, h1, H⟩
theorem zq_pop {d : Nat} {M : zM} {Q : zR → zH → Prop} {pc len r1 r2 r3 : Nat} {ts : List Nat} {lv : List (Nat × Value)} {st : List Value} {h : zH} {pc' : Nat} {v : Value} (ht : M.2.1 pc = some (37, len, r1, r2, r3, ts)) (hn : pc + len = pc') (hk : M.2.2.1 pc' = none) (h0 : zc2 v = false) (H : zW (zE d) M Q (pc', lv, st, h)) : zW (zE d) M Q (pc, lv, v :: st, h) := by
  subst hn
  refine zW_in ?_
  show zs (zE d) M Q _ pc lv _ h
  unfold zs
  rw [ht]
  show zo_pop (zE d) M Q (zW (zE d) M Q) pc len r1 r2 r3 ts lv (v :: st) h
  unfold zo_pop
  rw [hk]
  exact ⟨h0, H⟩
theorem zq_pop_c {d : Nat} {M : zM} {Q : zR → zH → Prop} {pc len r1 r2 r3 : Nat} {ts : List Nat} {lv : List (Nat × Value)} {st : List Value} {h : zH} {pc' : Nat} {v : Value} (ht : M.2.1 pc = some (37, len, r1, r2, r3, ts)) (hn : pc + len = pc') (h0 : zc2 v = false) (H : zW (zE d) M Q (pc', zkp (M.2.2.1 pc') (lv), st, h)) : zW (zE d) M Q (pc, lv, v :: st, h) := by
  subst hn
  refine zW_in ?_
  show zs (zE d) M Q _ pc lv _ h
  unfold zs
  rw [ht]
  show zo_pop (zE d) M Q (zW (zE d) M Q) pc len r1 r2 r3 ts lv (v :: st) h
  unfold zo_pop
  exact ⟨h0, H⟩
theorem zq_goto {d : Nat} {M : zM} {Q : zR → zH → Prop} {pc len r1 r2 r3 : Nat} {ts : List Nat} {lv : List (Nat × Value)} {st : List Value} {h : zH} {pc' : Nat}  (ht : M.2.1 pc = some (38, len, r1, r2, r3, ts)) (hn : r1 = pc') (hk : M.2.2.1 pc' = none)  (H : zW (zE d) M Q (pc', lv, st, h)) : zW (zE d) M Q (pc, lv, st, h) := by
  subst hn
  refine zW_in ?_
  show zs (zE d) M Q _ pc lv _ h
  unfold zs
  rw [ht]
  show zo_goto (zE d) M Q (zW (zE d) M Q) pc len r1 r2 r3 ts lv (st) h
  unfold zo_goto
  rw [hk]
  exact (H)
theorem zq_goto_c {d : Nat} {M : zM} {Q : zR → zH → Prop} {pc len r1 r2 r3 : Nat} {ts : List Nat} {lv : List (Nat × Value)} {st : List Value} {h : zH} {pc' : Nat}  (ht : M.2.1 pc = some (38, len, r1, r2, r3, ts)) (hn : r1 = pc')  (H : zW (zE d) M Q (pc', zkp (M.2.2.1 pc') (lv), st, h)) : zW (zE d) M Q (pc, lv, st, h) := by
  subst hn
  refine zW_in ?_
  show zs (zE d) M Q _ pc lv _ h
  unfold zs
  rw [ht]
  show zo_goto (zE d) M Q (zW (zE d) M Q) pc len r1 r2 r3 ts lv (st) h
  unfold zo_goto
  exact (H)
theorem zq_getI {d : Nat} {M : zM} {Q : zR → zH → Prop} {pc len r1 r2 r3 : Nat} {ts : List Nat} {lv : List (Nat × Value)} {st : List Value} {h : zH} {pc' : Nat} {a : Nat} {x : Int32} (ht : M.2.1 pc = some (52, len, r1, r2, r3, ts)) (hn : pc + len = pc') (hk : M.2.2.1 pc' = none) (e : zgf h a r1 r2 = some (.int x)) (H : zW (zE d) M Q (pc', lv, .int x :: st, h)) : zW (zE d) M Q (pc, lv, .ref a :: st, h) := by
  subst hn
  refine zW_in ?_
  show zs (zE d) M Q _ pc lv _ h
  unfold zs
  rw [ht]
  show zo_getI (zE d) M Q (zW (zE d) M Q) pc len r1 r2 r3 ts lv (.ref a :: st) h
  unfold zo_getI
  rw [hk]
  exact ⟨x, e, H⟩
theorem zq_getI_c {d : Nat} {M : zM} {Q : zR → zH → Prop} {pc len r1 r2 r3 : Nat} {ts : List Nat} {lv : List (Nat × Value)} {st : List Value} {h : zH} {pc' : Nat} {a : Nat} {x : Int32} (ht : M.2.1 pc = some (52, len, r1, r2, r3, ts)) (hn : pc + len = pc') (e : zgf h a r1 r2 = some (.int x)) (H : zW (zE d) M Q (pc', zkp (M.2.2.1 pc') (lv), .int x :: st, h)) : zW (zE d) M Q (pc, lv, .ref a :: st, h) := by
  subst hn
  refine zW_in ?_
  show zs (zE d) M Q _ pc lv _ h
  unfold zs
  rw [ht]
  show zo_getI (zE d) M Q (zW (zE d) M Q) pc len r1 r2 r3 ts lv (.ref a :: st) h
  unfold zo_getI
  exact ⟨x, e, H⟩
theorem zq_getJ {d : Nat} {M : zM} {Q : zR → zH → Prop} {pc len r1 r2 r3 : Nat} {ts : List Nat} {lv : List (Nat × Value)} {st : List Value} {h : zH} {pc' : Nat} {a : Nat} {x : Int64} (ht : M.2.1 pc = some (53, len, r1, r2, r3, ts)) (hn : pc + len = pc') (hk : M.2.2.1 pc' = none) (e : zgf h a r1 r2 = some (.long x)) (H : zW (zE d) M Q (pc', lv, .long x :: st, h)) : zW (zE d) M Q (pc, lv, .ref a :: st, h) := by
  subst hn
  refine zW_in ?_
  show zs (zE d) M Q _ pc lv _ h
  unfold zs
  rw [ht]
  show zo_getJ (zE d) M Q (zW (zE d) M Q) pc len r1 r2 r3 ts lv (.ref a :: st) h
  unfold zo_getJ
  rw [hk]
  exact ⟨x, e, H⟩
theorem zq_getJ_c {d : Nat} {M : zM} {Q : zR → zH → Prop} {pc len r1 r2 r3 : Nat} {ts : List Nat} {lv : List (Nat × Value)} {st : List Value} {h : zH} {pc' : Nat} {a : Nat} {x : Int64} (ht : M.2.1 pc = some (53, len, r1, r2, r3, ts)) (hn : pc + len = pc') (e : zgf h a r1 r2 = some (.long x)) (H : zW (zE d) M Q (pc', zkp (M.2.2.1 pc') (lv), .long x :: st, h)) : zW (zE d) M Q (pc, lv, .ref a :: st, h) := by
  subst hn
  refine zW_in ?_
  show zs (zE d) M Q _ pc lv _ h
  unfold zs
  rw [ht]
  show zo_getJ (zE d) M Q (zW (zE d) M Q) pc len r1 r2 r3 ts lv (.ref a :: st) h
  unfold zo_getJ
  exact ⟨x, e, H⟩
theorem zq_getR {d : Nat} {M : zM} {Q : zR → zH → Prop} {pc len r1 r2 r3 : Nat} {ts : List Nat} {lv : List (Nat × Value)} {st : List Value} {h : zH} {pc' : Nat} {a : Nat} {x : Nat} (ht : M.2.1 pc = some (54, len, r1, r2, r3, ts)) (hn : pc + len = pc') (hk : M.2.2.1 pc' = none) (e : zgf h a r1 r2 = some (.ref x)) (H : zW (zE d) M Q (pc', lv, .ref x :: st, h)) : zW (zE d) M Q (pc, lv, .ref a :: st, h) := by
  subst hn
  refine zW_in ?_
  show zs (zE d) M Q _ pc lv _ h
  unfold zs
  rw [ht]
  show zo_getR (zE d) M Q (zW (zE d) M Q) pc len r1 r2 r3 ts lv (.ref a :: st) h
  unfold zo_getR
  rw [hk]
  exact ⟨x, e, H⟩
theorem zq_getR_c {d : Nat} {M : zM} {Q : zR → zH → Prop} {pc len r1 r2 r3 : Nat} {ts : List Nat} {lv : List (Nat × Value)} {st : List Value} {h : zH} {pc' : Nat} {a : Nat} {x : Nat} (ht : M.2.1 pc = some (54, len, r1, r2, r3, ts)) (hn : pc + len = pc') (e : zgf h a r1 r2 = some (.ref x)) (H : zW (zE d) M Q (pc', zkp (M.2.2.1 pc') (lv), .ref x :: st, h)) : zW (zE d) M Q (pc, lv, .ref a :: st, h) := by
  subst hn
  refine zW_in ?_
  show zs (zE d) M Q _ pc lv _ h
  unfold zs
  rw [ht]
  show zo_getR (zE d) M Q (zW (zE d) M Q) pc len r1 r2 r3 ts lv (.ref a :: st) h
  unfold zo_getR
  exact ⟨x, e, H⟩
theorem zq_put {d : Nat} {M : zM} {Q : zR → zH → Prop} {pc len r1 r2 r3 : Nat} {ts : List Nat} {lv : List (Nat × Value)} {st : List Value} {h : zH} {pc' : Nat} {a : Nat} {v : Value} {h1 : zH} (ht : M.2.1 pc = some (55, len, r1, r2, r3, ts)) (hn : pc + len = pc') (hk : M.2.2.1 pc' = none) (e0 : zpt r3 v) (e : zpf h a r1 r2 v = some h1) (H : zW (zE d) M Q (pc', lv, st, h1)) : zW (zE d) M Q (pc, lv, v :: .ref a :: st, h) := by
  subst hn
  refine zW_in ?_
  show zs (zE d) M Q _ pc lv _ h
  unfold zs
  rw [ht]
  show zo_put (zE d) M Q (zW (zE d) M Q) pc len r1 r2 r3 ts lv (v :: .ref a :: st) h
  unfold zo_put
  rw [hk]
  exact ⟨e0, h1, e, H⟩
theorem zq_put_c {d : Nat} {M : zM} {Q : zR → zH → Prop} {pc len r1 r2 r3 : Nat} {ts : List Nat} {lv : List (Nat × Value)} {st : List Value} {h : zH} {pc' : Nat} {a : Nat} {v : Value} {h1 : zH} (ht : M.2.1 pc = some (55, len, r1, r2, r3, ts)) (hn : pc + len = pc') (e0 : zpt r3 v) (e : zpf h a r1 r2 v = some h1) (H : zW (zE d) M Q (pc', zkp (M.2.2.1 pc') (lv), st, h1)) : zW (zE d) M Q (pc, lv, v :: .ref a :: st, h) := by
  subst hn
  refine zW_in ?_
  show zs (zE d) M Q _ pc lv _ h
  unfold zs
  rw [ht]
  show zo_put (zE d) M Q (zW (zE d) M Q) pc len r1 r2 r3 ts lv (v :: .ref a :: st) h
  unfold zo_put
  exact ⟨e0, h1, e, H⟩
theorem zq_alen {d : Nat} {M : zM} {Q : zR → zH → Prop} {pc len r1 r2 r3 : Nat} {ts : List Nat} {lv : List (Nat × Value)} {st : List Value} {h : zH} {pc' : Nat} {a : Nat} {x : Int32} (ht : M.2.1 pc = some (56, len, r1, r2, r3, ts)) (hn : pc + len = pc') (hk : M.2.2.1 pc' = none) (e : zal h a = some x) (H : zW (zE d) M Q (pc', lv, .int x :: st, h)) : zW (zE d) M Q (pc, lv, .ref a :: st, h) := by
  subst hn
  refine zW_in ?_
  show zs (zE d) M Q _ pc lv _ h
  unfold zs
  rw [ht]
  show zo_alen (zE d) M Q (zW (zE d) M Q) pc len r1 r2 r3 ts lv (.ref a :: st) h
  unfold zo_alen
  rw [hk]
  exact ⟨x, e, H⟩
theorem zq_alen_c {d : Nat} {M : zM} {Q : zR → zH → Prop} {pc len r1 r2 r3 : Nat} {ts : List Nat} {lv : List (Nat × Value)} {st : List Value} {h : zH} {pc' : Nat} {a : Nat} {x : Int32} (ht : M.2.1 pc = some (56, len, r1, r2, r3, ts)) (hn : pc + len = pc') (e : zal h a = some x) (H : zW (zE d) M Q (pc', zkp (M.2.2.1 pc') (lv), .int x :: st, h)) : zW (zE d) M Q (pc, lv, .ref a :: st, h) := by
  subst hn
  refine zW_in ?_
  show zs (zE d) M Q _ pc lv _ h
  unfold zs
  rw [ht]
  show zo_alen (zE d) M Q (zW (zE d) M Q) pc len r1 r2 r3 ts lv (.ref a :: st) h
  unfold zo_alen
  exact ⟨x, e, H⟩
theorem zq_iald {d : Nat} {M : zM} {Q : zR → zH → Prop} {pc len r1 r2 r3 : Nat} {ts : List Nat} {lv : List (Nat × Value)} {st : List Value} {h : zH} {pc' : Nat} {a : Nat} {i : Int32} {x : Int32} (ht : M.2.1 pc = some (57, len, r1, r2, r3, ts)) (hn : pc + len = pc') (hk : M.2.2.1 pc' = none) (e : zia h a i = some x) (H : zW (zE d) M Q (pc', lv, .int x :: st, h)) : zW (zE d) M Q (pc, lv, .int i :: .ref a :: st, h) := by
  subst hn
  refine zW_in ?_
  show zs (zE d) M Q _ pc lv _ h
  unfold zs
  rw [ht]
  show zo_iald (zE d) M Q (zW (zE d) M Q) pc len r1 r2 r3 ts lv (.int i :: .ref a :: st) h
  unfold zo_iald
  rw [hk]
  exact ⟨x, e, H⟩
theorem zq_iald_c {d : Nat} {M : zM} {Q : zR → zH → Prop} {pc len r1 r2 r3 : Nat} {ts : List Nat} {lv : List (Nat × Value)} {st : List Value} {h : zH} {pc' : Nat} {a : Nat} {i : Int32} {x : Int32} (ht : M.2.1 pc = some (57, len, r1, r2, r3, ts)) (hn : pc + len = pc') (e : zia h a i = some x) (H : zW (zE d) M Q (pc', zkp (M.2.2.1 pc') (lv), .int x :: st, h)) : zW (zE d) M Q (pc, lv, .int i :: .ref a :: st, h) := by
  subst hn
  refine zW_in ?_
  show zs (zE d) M Q _ pc lv _ h
  unfold zs
  rw [ht]
  show zo_iald (zE d) M Q (zW (zE d) M Q) pc len r1 r2 r3 ts lv (.int i :: .ref a :: st) h
  unfold zo_iald
  exact ⟨x, e, H⟩
theorem zq_bald {d : Nat} {M : zM} {Q : zR → zH → Prop} {pc len r1 r2 r3 : Nat} {ts : List Nat} {lv : List (Nat × Value)} {st : List Value} {h : zH} {pc' : Nat} {a : Nat} {i : Int32} {x : Int32} (ht : M.2.1 pc = some (58, len, r1, r2, r3, ts)) (hn : pc + len = pc') (hk : M.2.2.1 pc' = none) (e : zba h a i = some x) (H : zW (zE d) M Q (pc', lv, .int x :: st, h)) : zW (zE d) M Q (pc, lv, .int i :: .ref a :: st, h) := by
  subst hn
  refine zW_in ?_
  show zs (zE d) M Q _ pc lv _ h
  unfold zs
  rw [ht]
  show zo_bald (zE d) M Q (zW (zE d) M Q) pc len r1 r2 r3 ts lv (.int i :: .ref a :: st) h
  unfold zo_bald
  rw [hk]
  exact ⟨x, e, H⟩
theorem zq_bald_c {d : Nat} {M : zM} {Q : zR → zH → Prop} {pc len r1 r2 r3 : Nat} {ts : List Nat} {lv : List (Nat × Value)} {st : List Value} {h : zH} {pc' : Nat} {a : Nat} {i : Int32} {x : Int32} (ht : M.2.1 pc = some (58, len, r1, r2, r3, ts)) (hn : pc + len = pc') (e : zba h a i = some x) (H : zW (zE d) M Q (pc', zkp (M.2.2.1 pc') (lv), .int x :: st, h)) : zW (zE d) M Q (pc, lv, .int i :: .ref a :: st, h) := by
  subst hn
  refine zW_in ?_
  show zs (zE d) M Q _ pc lv _ h
  unfold zs
  rw [ht]
  show zo_bald (zE d) M Q (zW (zE d) M Q) pc len r1 r2 r3 ts lv (.int i :: .ref a :: st) h
  unfold zo_bald
  exact ⟨x, e, H⟩
theorem zq_lald {d : Nat} {M : zM} {Q : zR → zH → Prop} {pc len r1 r2 r3 : Nat} {ts : List Nat} {lv : List (Nat × Value)} {st : List Value} {h : zH} {pc' : Nat} {a : Nat} {i : Int32} {x : Int64} (ht : M.2.1 pc = some (59, len, r1, r2, r3, ts)) (hn : pc + len = pc') (hk : M.2.2.1 pc' = none) (e : zla h a i = some x) (H : zW (zE d) M Q (pc', lv, .long x :: st, h)) : zW (zE d) M Q (pc, lv, .int i :: .ref a :: st, h) := by
  subst hn
  refine zW_in ?_
  show zs (zE d) M Q _ pc lv _ h
  unfold zs
  rw [ht]
  show zo_lald (zE d) M Q (zW (zE d) M Q) pc len r1 r2 r3 ts lv (.int i :: .ref a :: st) h
  unfold zo_lald
  rw [hk]
  exact ⟨x, e, H⟩
theorem zq_lald_c {d : Nat} {M : zM} {Q : zR → zH → Prop} {pc len r1 r2 r3 : Nat} {ts : List Nat} {lv : List (Nat × Value)} {st : List Value} {h : zH} {pc' : Nat} {a : Nat} {i : Int32} {x : Int64} (ht : M.2.1 pc = some (59, len, r1, r2, r3, ts)) (hn : pc + len = pc') (e : zla h a i = some x) (H : zW (zE d) M Q (pc', zkp (M.2.2.1 pc') (lv), .long x :: st, h)) : zW (zE d) M Q (pc, lv, .int i :: .ref a :: st, h) := by
  subst hn
  refine zW_in ?_
  show zs (zE d) M Q _ pc lv _ h
  unfold zs
  rw [ht]
  show zo_lald (zE d) M Q (zW (zE d) M Q) pc len r1 r2 r3 ts lv (.int i :: .ref a :: st) h
  unfold zo_lald
  exact ⟨x, e, H⟩
theorem zq_aald {d : Nat} {M : zM} {Q : zR → zH → Prop} {pc len r1 r2 r3 : Nat} {ts : List Nat} {lv : List (Nat × Value)} {st : List Value} {h : zH} {pc' : Nat} {a : Nat} {i : Int32} {x : Nat} (ht : M.2.1 pc = some (60, len, r1, r2, r3, ts)) (hn : pc + len = pc') (hk : M.2.2.1 pc' = none) (e : zaa h a i = some x) (H : zW (zE d) M Q (pc', lv, .ref x :: st, h)) : zW (zE d) M Q (pc, lv, .int i :: .ref a :: st, h) := by
  subst hn
  refine zW_in ?_
  show zs (zE d) M Q _ pc lv _ h
  unfold zs
  rw [ht]
  show zo_aald (zE d) M Q (zW (zE d) M Q) pc len r1 r2 r3 ts lv (.int i :: .ref a :: st) h
  unfold zo_aald
  rw [hk]
  exact ⟨x, e, H⟩
theorem zq_aald_c {d : Nat} {M : zM} {Q : zR → zH → Prop} {pc len r1 r2 r3 : Nat} {ts : List Nat} {lv : List (Nat × Value)} {st : List Value} {h : zH} {pc' : Nat} {a : Nat} {i : Int32} {x : Nat} (ht : M.2.1 pc = some (60, len, r1, r2, r3, ts)) (hn : pc + len = pc') (e : zaa h a i = some x) (H : zW (zE d) M Q (pc', zkp (M.2.2.1 pc') (lv), .ref x :: st, h)) : zW (zE d) M Q (pc, lv, .int i :: .ref a :: st, h) := by
  subst hn
  refine zW_in ?_
  show zs (zE d) M Q _ pc lv _ h
  unfold zs
  rw [ht]
  show zo_aald (zE d) M Q (zW (zE d) M Q) pc len r1 r2 r3 ts lv (.int i :: .ref a :: st) h
  unfold zo_aald
  exact ⟨x, e, H⟩
theorem zq_iast {d : Nat} {M : zM} {Q : zR → zH → Prop} {pc len r1 r2 r3 : Nat} {ts : List Nat} {lv : List (Nat × Value)} {st : List Value} {h : zH} {pc' : Nat} {a : Nat} {i : Int32} {x : Int32} {h1 : zH} (ht : M.2.1 pc = some (61, len, r1, r2, r3, ts)) (hn : pc + len = pc') (hk : M.2.2.1 pc' = none) (e : zis h a i x = some h1) (H : zW (zE d) M Q (pc', lv, st, h1)) : zW (zE d) M Q (pc, lv, .int x :: .int i :: .ref a :: st, h) := by
  subst hn
  refine zW_in ?_
  show zs (zE d) M Q _ pc lv _ h
  unfold zs
  rw [ht]
  show zo_iast (zE d) M Q (zW (zE d) M Q) pc len r1 r2 r3 ts lv (.int x :: .int i :: .ref a :: st) h
  unfold zo_iast
  rw [hk]
  exact ⟨h1, e, H⟩
theorem zq_iast_c {d : Nat} {M : zM} {Q : zR → zH → Prop} {pc len r1 r2 r3 : Nat} {ts : List Nat} {lv : List (Nat × Value)} {st : List Value} {h : zH} {pc' : Nat} {a : Nat} {i : Int32} {x : Int32} {h1 : zH} (ht : M.2.1 pc = some (61, len, r1, r2, r3, ts)) (hn : pc + len = pc') (e : zis h a i x = some h1) (H : zW (zE d) M Q (pc', zkp (M.2.2.1 pc') (lv), st, h1)) : zW (zE d) M Q (pc, lv, .int x :: .int i :: .ref a :: st, h) := by
  subst hn
  refine zW_in ?_
  show zs (zE d) M Q _ pc lv _ h
  unfold zs
  rw [ht]
  show zo_iast (zE d) M Q (zW (zE d) M Q) pc len r1 r2 r3 ts lv (.int x :: .int i :: .ref a :: st) h
  unfold zo_iast
  exact ⟨h1, e, H⟩
theorem zq_bast {d : Nat} {M : zM} {Q : zR → zH → Prop} {pc len r1 r2 r3 : Nat} {ts : List Nat} {lv : List (Nat × Value)} {st : List Value} {h : zH} {pc' : Nat} {a : Nat} {i : Int32} {x : Int32} {h1 : zH} (ht : M.2.1 pc = some (62, len, r1, r2, r3, ts)) (hn : pc + len = pc') (hk : M.2.2.1 pc' = none) (e : zbs h a i x = some h1) (H : zW (zE d) M Q (pc', lv, st, h1)) : zW (zE d) M Q (pc, lv, .int x :: .int i :: .ref a :: st, h) := by
  subst hn
  refine zW_in ?_
  show zs (zE d) M Q _ pc lv _ h
  unfold zs
  rw [ht]
  show zo_bast (zE d) M Q (zW (zE d) M Q) pc len r1 r2 r3 ts lv (.int x :: .int i :: .ref a :: st) h
  unfold zo_bast
  rw [hk]
  exact ⟨h1, e, H⟩
theorem zq_bast_c {d : Nat} {M : zM} {Q : zR → zH → Prop} {pc len r1 r2 r3 : Nat} {ts : List Nat} {lv : List (Nat × Value)} {st : List Value} {h : zH} {pc' : Nat} {a : Nat} {i : Int32} {x : Int32} {h1 : zH} (ht : M.2.1 pc = some (62, len, r1, r2, r3, ts)) (hn : pc + len = pc') (e : zbs h a i x = some h1) (H : zW (zE d) M Q (pc', zkp (M.2.2.1 pc') (lv), st, h1)) : zW (zE d) M Q (pc, lv, .int x :: .int i :: .ref a :: st, h) := by
  subst hn
  refine zW_in ?_
  show zs (zE d) M Q _ pc lv _ h
  unfold zs
  rw [ht]
  show zo_bast (zE d) M Q (zW (zE d) M Q) pc len r1 r2 r3 ts lv (.int x :: .int i :: .ref a :: st) h
  unfold zo_bast
  exact ⟨h1, e, H⟩
theorem zq_last {d : Nat} {M : zM} {Q : zR → zH → Prop} {pc len r1 r2 r3 : Nat} {ts : List Nat} {lv : List (Nat × Value)} {st : List Value} {h : zH} {pc' : Nat} {a : Nat} {i : Int32} {x : Int64} {h1 : zH} (ht : M.2.1 pc = some (63, len, r1, r2, r3, ts)) (hn : pc + len = pc') (hk : M.2.2.1 pc' = none) (e : zjs h a i x = some h1) (H : zW (zE d) M Q (pc', lv, st, h1)) : zW (zE d) M Q (pc, lv, .long x :: .int i :: .ref a :: st, h) := by
  subst hn
  refine zW_in ?_
  show zs (zE d) M Q _ pc lv _ h
  unfold zs
  rw [ht]
  show zo_last (zE d) M Q (zW (zE d) M Q) pc len r1 r2 r3 ts lv (.long x :: .int i :: .ref a :: st) h
  unfold zo_last
  rw [hk]
  exact ⟨h1, e, H⟩
theorem zq_last_c {d : Nat} {M : zM} {Q : zR → zH → Prop} {pc len r1 r2 r3 : Nat} {ts : List Nat} {lv : List (Nat × Value)} {st : List Value} {h : zH} {pc' : Nat} {a : Nat} {i : Int32} {x : Int64} {h1 : zH} (ht : M.2.1 pc = some (63, len, r1, r2, r3, ts)) (hn : pc + len = pc') (e : zjs h a i x = some h1) (H : zW (zE d) M Q (pc', zkp (M.2.2.1 pc') (lv), st, h1)) : zW (zE d) M Q (pc, lv, .long x :: .int i :: .ref a :: st, h) := by
  subst hn
  refine zW_in ?_
  show zs (zE d) M Q _ pc lv _ h
  unfold zs
  rw [ht]
  show zo_last (zE d) M Q (zW (zE d) M Q) pc len r1 r2 r3 ts lv (.long x :: .int i :: .ref a :: st) h
  unfold zo_last
  exact ⟨h1, e, H⟩
theorem zq_aast {d : Nat} {M : zM} {Q : zR → zH → Prop} {pc len r1 r2 r3 : Nat} {ts : List Nat} {lv : List (Nat × Value)} {st : List Value} {h : zH} {pc' : Nat} {a : Nat} {i : Int32} {x : Nat} {h1 : zH} (ht : M.2.1 pc = some (64, len, r1, r2, r3, ts)) (hn : pc + len = pc') (hk : M.2.2.1 pc' = none) (e : zas h a i x = some h1) (H : zW (zE d) M Q (pc', lv, st, h1)) : zW (zE d) M Q (pc, lv, .ref x :: .int i :: .ref a :: st, h) := by
  subst hn
  refine zW_in ?_
  show zs (zE d) M Q _ pc lv _ h
  unfold zs
  rw [ht]
  show zo_aast (zE d) M Q (zW (zE d) M Q) pc len r1 r2 r3 ts lv (.ref x :: .int i :: .ref a :: st) h
  unfold zo_aast
  rw [hk]
  exact ⟨h1, e, H⟩
theorem zq_aast_c {d : Nat} {M : zM} {Q : zR → zH → Prop} {pc len r1 r2 r3 : Nat} {ts : List Nat} {lv : List (Nat × Value)} {st : List Value} {h : zH} {pc' : Nat} {a : Nat} {i : Int32} {x : Nat} {h1 : zH} (ht : M.2.1 pc = some (64, len, r1, r2, r3, ts)) (hn : pc + len = pc') (e : zas h a i x = some h1) (H : zW (zE d) M Q (pc', zkp (M.2.2.1 pc') (lv), st, h1)) : zW (zE d) M Q (pc, lv, .ref x :: .int i :: .ref a :: st, h) := by
  subst hn
  refine zW_in ?_
  show zs (zE d) M Q _ pc lv _ h
  unfold zs
  rw [ht]
  show zo_aast (zE d) M Q (zW (zE d) M Q) pc len r1 r2 r3 ts lv (.ref x :: .int i :: .ref a :: st) h
  unfold zo_aast
  exact ⟨h1, e, H⟩
theorem zq_new {d : Nat} {M : zM} {Q : zR → zH → Prop} {pc len r1 r2 r3 : Nat} {ts : List Nat} {lv : List (Nat × Value)} {st : List Value} {h : zH} {pc' : Nat} {h1 : zH} (ht : M.2.1 pc = some (65, len, r1, r2, r3, ts)) (hn : pc + len = pc') (hk : M.2.2.1 pc' = none) (e : znw h r1 r2 = some h1) (H : zW (zE d) M Q (pc', lv, .ref (999 + h.1) :: st, h1)) : zW (zE d) M Q (pc, lv, st, h) := by
  subst hn
  refine zW_in ?_
  show zs (zE d) M Q _ pc lv _ h
  unfold zs
  rw [ht]
  show zo_new (zE d) M Q (zW (zE d) M Q) pc len r1 r2 r3 ts lv (st) h
  unfold zo_new
  rw [hk]
  exact ⟨h1, e, H⟩
theorem zq_new_c {d : Nat} {M : zM} {Q : zR → zH → Prop} {pc len r1 r2 r3 : Nat} {ts : List Nat} {lv : List (Nat × Value)} {st : List Value} {h : zH} {pc' : Nat} {h1 : zH} (ht : M.2.1 pc = some (65, len, r1, r2, r3, ts)) (hn : pc + len = pc') (e : znw h r1 r2 = some h1) (H : zW (zE d) M Q (pc', zkp (M.2.2.1 pc') (lv), .ref (999 + h.1) :: st, h1)) : zW (zE d) M Q (pc, lv, st, h) := by
  subst hn
  refine zW_in ?_
  show zs (zE d) M Q _ pc lv _ h
  unfold zs
  rw [ht]
  show zo_new (zE d) M Q (zW (zE d) M Q) pc len r1 r2 r3 ts lv (st) h
  unfold zo_new
  exact ⟨h1, e, H⟩
theorem zq_newa {d : Nat} {M : zM} {Q : zR → zH → Prop} {pc len r1 r2 r3 : Nat} {ts : List Nat} {lv : List (Nat × Value)} {st : List Value} {h : zH} {pc' : Nat} {n : Int32} {h1 : zH} (ht : M.2.1 pc = some (67, len, r1, r2, r3, ts)) (hn : pc + len = pc') (hk : M.2.2.1 pc' = none) (e : zna h r1 n = some h1) (H : zW (zE d) M Q (pc', lv, .ref (999 + h.1) :: st, h1)) : zW (zE d) M Q (pc, lv, .int n :: st, h) := by
  subst hn
  refine zW_in ?_
  show zs (zE d) M Q _ pc lv _ h
  unfold zs
  rw [ht]
  show zo_newa (zE d) M Q (zW (zE d) M Q) pc len r1 r2 r3 ts lv (.int n :: st) h
  unfold zo_newa
  rw [hk]
  exact ⟨h1, e, H⟩
theorem zq_newa_c {d : Nat} {M : zM} {Q : zR → zH → Prop} {pc len r1 r2 r3 : Nat} {ts : List Nat} {lv : List (Nat × Value)} {st : List Value} {h : zH} {pc' : Nat} {n : Int32} {h1 : zH} (ht : M.2.1 pc = some (67, len, r1, r2, r3, ts)) (hn : pc + len = pc') (e : zna h r1 n = some h1) (H : zW (zE d) M Q (pc', zkp (M.2.2.1 pc') (lv), .ref (999 + h.1) :: st, h1)) : zW (zE d) M Q (pc, lv, .int n :: st, h) := by
  subst hn
  refine zW_in ?_
  show zs (zE d) M Q _ pc lv _ h
  unfold zs
  rw [ht]
  show zo_newa (zE d) M Q (zW (zE d) M Q) pc len r1 r2 r3 ts lv (.int n :: st) h
  unfold zo_newa
  exact ⟨h1, e, H⟩
theorem zq_cpi {d : Nat} {M : zM} {Q : zR → zH → Prop} {pc len r1 r2 r3 : Nat} {ts : List Nat} {lv : List (Nat × Value)} {st : List Value} {h : zH} {pc' : Nat} {a b : Nat} {sp dp n : Int32} {h1 : zH} (ht : M.2.1 pc = some (70, len, r1, r2, r3, ts)) (hn : pc + len = pc') (hk : M.2.2.1 pc' = none) (hz : Nat.ble (zsz st) 20 = true) (e : zci h a sp b dp n = some h1) (H : zW (zE d) M Q (pc', lv, st, h1)) : zW (zE d) M Q (pc, lv, .int n :: .int dp :: .ref b :: .int sp :: .ref a :: st, h) := by
  subst hn
  refine zW_in ?_
  show zs (zE d) M Q _ pc lv _ h
  unfold zs
  rw [ht]
  show zo_cpi (zE d) M Q (zW (zE d) M Q) pc len r1 r2 r3 ts lv (.int n :: .int dp :: .ref b :: .int sp :: .ref a :: st) h
  unfold zo_cpi
  rw [hk]
  exact ⟨hz, h1, e, H⟩
theorem zq_cpi_c {d : Nat} {M : zM} {Q : zR → zH → Prop} {pc len r1 r2 r3 : Nat} {ts : List Nat} {lv : List (Nat × Value)} {st : List Value} {h : zH} {pc' : Nat} {a b : Nat} {sp dp n : Int32} {h1 : zH} (ht : M.2.1 pc = some (70, len, r1, r2, r3, ts)) (hn : pc + len = pc') (hz : Nat.ble (zsz st) 20 = true) (e : zci h a sp b dp n = some h1) (H : zW (zE d) M Q (pc', zkp (M.2.2.1 pc') (lv), st, h1)) : zW (zE d) M Q (pc, lv, .int n :: .int dp :: .ref b :: .int sp :: .ref a :: st, h) := by
  subst hn
  refine zW_in ?_
  show zs (zE d) M Q _ pc lv _ h
  unfold zs
  rw [ht]
  show zo_cpi (zE d) M Q (zW (zE d) M Q) pc len r1 r2 r3 ts lv (.int n :: .int dp :: .ref b :: .int sp :: .ref a :: st) h
  unfold zo_cpi
  exact ⟨hz, h1, e, H⟩
theorem zq_cpj {d : Nat} {M : zM} {Q : zR → zH → Prop} {pc len r1 r2 r3 : Nat} {ts : List Nat} {lv : List (Nat × Value)} {st : List Value} {h : zH} {pc' : Nat} {a b : Nat} {sp dp n : Int32} {h1 : zH} (ht : M.2.1 pc = some (71, len, r1, r2, r3, ts)) (hn : pc + len = pc') (hk : M.2.2.1 pc' = none) (hz : Nat.ble (zsz st) 20 = true) (e : zcj h a sp b dp n = some h1) (H : zW (zE d) M Q (pc', lv, st, h1)) : zW (zE d) M Q (pc, lv, .int n :: .int dp :: .ref b :: .int sp :: .ref a :: st, h) := by
  subst hn
  refine zW_in ?_
  show zs (zE d) M Q _ pc lv _ h
  unfold zs
  rw [ht]
  show zo_cpj (zE d) M Q (zW (zE d) M Q) pc len r1 r2 r3 ts lv (.int n :: .int dp :: .ref b :: .int sp :: .ref a :: st) h
  unfold zo_cpj
  rw [hk]
  exact ⟨hz, h1, e, H⟩
theorem zq_cpj_c {d : Nat} {M : zM} {Q : zR → zH → Prop} {pc len r1 r2 r3 : Nat} {ts : List Nat} {lv : List (Nat × Value)} {st : List Value} {h : zH} {pc' : Nat} {a b : Nat} {sp dp n : Int32} {h1 : zH} (ht : M.2.1 pc = some (71, len, r1, r2, r3, ts)) (hn : pc + len = pc') (hz : Nat.ble (zsz st) 20 = true) (e : zcj h a sp b dp n = some h1) (H : zW (zE d) M Q (pc', zkp (M.2.2.1 pc') (lv), st, h1)) : zW (zE d) M Q (pc, lv, .int n :: .int dp :: .ref b :: .int sp :: .ref a :: st, h) := by
  subst hn
  refine zW_in ?_
  show zs (zE d) M Q _ pc lv _ h
  unfold zs
  rw [ht]
  show zo_cpj (zE d) M Q (zW (zE d) M Q) pc len r1 r2 r3 ts lv (.int n :: .int dp :: .ref b :: .int sp :: .ref a :: st) h
  unfold zo_cpj
  exact ⟨hz, h1, e, H⟩
theorem zq_ifeq {d : Nat} {M : zM} {Q : zR → zH → Prop} {pc len r1 r2 r3 : Nat} {ts : List Nat} {lv : List (Nat × Value)} {st : List Value} {h : zH} {pc' : Nat}  {x : Int32} (ht : M.2.1 pc = some (39, len, r1, r2, r3, ts)) (hn : pc + len = pc') (hk1 : M.2.2.1 r1 = none) (hk2 : M.2.2.1 pc' = none) (H : zbr (x = 0) (zW (zE d) M Q (r1, lv, st, h)) (zW (zE d) M Q (pc', lv, st, h))) : zW (zE d) M Q (pc, lv, .int x :: st, h) := by
  subst hn
  refine zW_in ?_
  show zs (zE d) M Q _ pc lv _ h
  unfold zs
  rw [ht]
  show zo_ifeq (zE d) M Q (zW (zE d) M Q) pc len r1 r2 r3 ts lv (.int x :: st) h
  unfold zo_ifeq
  rw [hk1, hk2]
  exact H
theorem zq_ifeq_c {d : Nat} {M : zM} {Q : zR → zH → Prop} {pc len r1 r2 r3 : Nat} {ts : List Nat} {lv : List (Nat × Value)} {st : List Value} {h : zH} {pc' : Nat} {lt lf : List (Nat × Value)} {x : Int32} (ht : M.2.1 pc = some (39, len, r1, r2, r3, ts)) (hn : pc + len = pc') (ht2 : zkp (M.2.2.1 r1) lv = lt) (hf2 : zkp (M.2.2.1 pc') lv = lf) (H : zbr (x = 0) (zW (zE d) M Q (r1, lt, st, h)) (zW (zE d) M Q (pc', lf, st, h))) : zW (zE d) M Q (pc, lv, .int x :: st, h) := by
  subst hn
  subst ht2
  subst hf2
  refine zW_in ?_
  show zs (zE d) M Q _ pc lv _ h
  unfold zs
  rw [ht]
  show zo_ifeq (zE d) M Q (zW (zE d) M Q) pc len r1 r2 r3 ts lv (.int x :: st) h
  exact H
theorem zq_ifne {d : Nat} {M : zM} {Q : zR → zH → Prop} {pc len r1 r2 r3 : Nat} {ts : List Nat} {lv : List (Nat × Value)} {st : List Value} {h : zH} {pc' : Nat}  {x : Int32} (ht : M.2.1 pc = some (40, len, r1, r2, r3, ts)) (hn : pc + len = pc') (hk1 : M.2.2.1 r1 = none) (hk2 : M.2.2.1 pc' = none) (H : zbr (x = 0) (zW (zE d) M Q (pc', lv, st, h)) (zW (zE d) M Q (r1, lv, st, h))) : zW (zE d) M Q (pc, lv, .int x :: st, h) := by
  subst hn
  refine zW_in ?_
  show zs (zE d) M Q _ pc lv _ h
  unfold zs
  rw [ht]
  show zo_ifne (zE d) M Q (zW (zE d) M Q) pc len r1 r2 r3 ts lv (.int x :: st) h
  unfold zo_ifne
  rw [hk1, hk2]
  exact H
theorem zq_ifne_c {d : Nat} {M : zM} {Q : zR → zH → Prop} {pc len r1 r2 r3 : Nat} {ts : List Nat} {lv : List (Nat × Value)} {st : List Value} {h : zH} {pc' : Nat} {lt lf : List (Nat × Value)} {x : Int32} (ht : M.2.1 pc = some (40, len, r1, r2, r3, ts)) (hn : pc + len = pc') (ht2 : zkp (M.2.2.1 r1) lv = lt) (hf2 : zkp (M.2.2.1 pc') lv = lf) (H : zbr (x = 0) (zW (zE d) M Q (pc', lf, st, h)) (zW (zE d) M Q (r1, lt, st, h))) : zW (zE d) M Q (pc, lv, .int x :: st, h) := by
  subst hn
  subst ht2
  subst hf2
  refine zW_in ?_
  show zs (zE d) M Q _ pc lv _ h
  unfold zs
  rw [ht]
  show zo_ifne (zE d) M Q (zW (zE d) M Q) pc len r1 r2 r3 ts lv (.int x :: st) h
  exact H
theorem zq_iflt {d : Nat} {M : zM} {Q : zR → zH → Prop} {pc len r1 r2 r3 : Nat} {ts : List Nat} {lv : List (Nat × Value)} {st : List Value} {h : zH} {pc' : Nat}  {x : Int32} (ht : M.2.1 pc = some (41, len, r1, r2, r3, ts)) (hn : pc + len = pc') (hk1 : M.2.2.1 r1 = none) (hk2 : M.2.2.1 pc' = none) (H : zbr (x < 0) (zW (zE d) M Q (r1, lv, st, h)) (zW (zE d) M Q (pc', lv, st, h))) : zW (zE d) M Q (pc, lv, .int x :: st, h) := by
  subst hn
  refine zW_in ?_
  show zs (zE d) M Q _ pc lv _ h
  unfold zs
  rw [ht]
  show zo_iflt (zE d) M Q (zW (zE d) M Q) pc len r1 r2 r3 ts lv (.int x :: st) h
  unfold zo_iflt
  rw [hk1, hk2]
  exact H
theorem zq_iflt_c {d : Nat} {M : zM} {Q : zR → zH → Prop} {pc len r1 r2 r3 : Nat} {ts : List Nat} {lv : List (Nat × Value)} {st : List Value} {h : zH} {pc' : Nat} {lt lf : List (Nat × Value)} {x : Int32} (ht : M.2.1 pc = some (41, len, r1, r2, r3, ts)) (hn : pc + len = pc') (ht2 : zkp (M.2.2.1 r1) lv = lt) (hf2 : zkp (M.2.2.1 pc') lv = lf) (H : zbr (x < 0) (zW (zE d) M Q (r1, lt, st, h)) (zW (zE d) M Q (pc', lf, st, h))) : zW (zE d) M Q (pc, lv, .int x :: st, h) := by
  subst hn
  subst ht2
  subst hf2
  refine zW_in ?_
  show zs (zE d) M Q _ pc lv _ h
  unfold zs
  rw [ht]
  show zo_iflt (zE d) M Q (zW (zE d) M Q) pc len r1 r2 r3 ts lv (.int x :: st) h
  exact H
theorem zq_ifge {d : Nat} {M : zM} {Q : zR → zH → Prop} {pc len r1 r2 r3 : Nat} {ts : List Nat} {lv : List (Nat × Value)} {st : List Value} {h : zH} {pc' : Nat}  {x : Int32} (ht : M.2.1 pc = some (42, len, r1, r2, r3, ts)) (hn : pc + len = pc') (hk1 : M.2.2.1 r1 = none) (hk2 : M.2.2.1 pc' = none) (H : zbr (0 ≤ x) (zW (zE d) M Q (r1, lv, st, h)) (zW (zE d) M Q (pc', lv, st, h))) : zW (zE d) M Q (pc, lv, .int x :: st, h) := by
  subst hn
  refine zW_in ?_
  show zs (zE d) M Q _ pc lv _ h
  unfold zs
  rw [ht]
  show zo_ifge (zE d) M Q (zW (zE d) M Q) pc len r1 r2 r3 ts lv (.int x :: st) h
  unfold zo_ifge
  rw [hk1, hk2]
  exact H
theorem zq_ifge_c {d : Nat} {M : zM} {Q : zR → zH → Prop} {pc len r1 r2 r3 : Nat} {ts : List Nat} {lv : List (Nat × Value)} {st : List Value} {h : zH} {pc' : Nat} {lt lf : List (Nat × Value)} {x : Int32} (ht : M.2.1 pc = some (42, len, r1, r2, r3, ts)) (hn : pc + len = pc') (ht2 : zkp (M.2.2.1 r1) lv = lt) (hf2 : zkp (M.2.2.1 pc') lv = lf) (H : zbr (0 ≤ x) (zW (zE d) M Q (r1, lt, st, h)) (zW (zE d) M Q (pc', lf, st, h))) : zW (zE d) M Q (pc, lv, .int x :: st, h) := by
  subst hn
  subst ht2
  subst hf2
  refine zW_in ?_
  show zs (zE d) M Q _ pc lv _ h
  unfold zs
  rw [ht]
  show zo_ifge (zE d) M Q (zW (zE d) M Q) pc len r1 r2 r3 ts lv (.int x :: st) h
  exact H
theorem zq_ifgt {d : Nat} {M : zM} {Q : zR → zH → Prop} {pc len r1 r2 r3 : Nat} {ts : List Nat} {lv : List (Nat × Value)} {st : List Value} {h : zH} {pc' : Nat}  {x : Int32} (ht : M.2.1 pc = some (43, len, r1, r2, r3, ts)) (hn : pc + len = pc') (hk1 : M.2.2.1 r1 = none) (hk2 : M.2.2.1 pc' = none) (H : zbr (0 < x) (zW (zE d) M Q (r1, lv, st, h)) (zW (zE d) M Q (pc', lv, st, h))) : zW (zE d) M Q (pc, lv, .int x :: st, h) := by
  subst hn
  refine zW_in ?_
  show zs (zE d) M Q _ pc lv _ h
  unfold zs
  rw [ht]
  show zo_ifgt (zE d) M Q (zW (zE d) M Q) pc len r1 r2 r3 ts lv (.int x :: st) h
  unfold zo_ifgt
  rw [hk1, hk2]
  exact H
theorem zq_ifgt_c {d : Nat} {M : zM} {Q : zR → zH → Prop} {pc len r1 r2 r3 : Nat} {ts : List Nat} {lv : List (Nat × Value)} {st : List Value} {h : zH} {pc' : Nat} {lt lf : List (Nat × Value)} {x : Int32} (ht : M.2.1 pc = some (43, len, r1, r2, r3, ts)) (hn : pc + len = pc') (ht2 : zkp (M.2.2.1 r1) lv = lt) (hf2 : zkp (M.2.2.1 pc') lv = lf) (H : zbr (0 < x) (zW (zE d) M Q (r1, lt, st, h)) (zW (zE d) M Q (pc', lf, st, h))) : zW (zE d) M Q (pc, lv, .int x :: st, h) := by
  subst hn
  subst ht2
  subst hf2
  refine zW_in ?_
  show zs (zE d) M Q _ pc lv _ h
  unfold zs
  rw [ht]
  show zo_ifgt (zE d) M Q (zW (zE d) M Q) pc len r1 r2 r3 ts lv (.int x :: st) h
  exact H
theorem zq_ifle {d : Nat} {M : zM} {Q : zR → zH → Prop} {pc len r1 r2 r3 : Nat} {ts : List Nat} {lv : List (Nat × Value)} {st : List Value} {h : zH} {pc' : Nat}  {x : Int32} (ht : M.2.1 pc = some (44, len, r1, r2, r3, ts)) (hn : pc + len = pc') (hk1 : M.2.2.1 r1 = none) (hk2 : M.2.2.1 pc' = none) (H : zbr (x ≤ 0) (zW (zE d) M Q (r1, lv, st, h)) (zW (zE d) M Q (pc', lv, st, h))) : zW (zE d) M Q (pc, lv, .int x :: st, h) := by
  subst hn
  refine zW_in ?_
  show zs (zE d) M Q _ pc lv _ h
  unfold zs
  rw [ht]
  show zo_ifle (zE d) M Q (zW (zE d) M Q) pc len r1 r2 r3 ts lv (.int x :: st) h
  unfold zo_ifle
  rw [hk1, hk2]
  exact H
theorem zq_ifle_c {d : Nat} {M : zM} {Q : zR → zH → Prop} {pc len r1 r2 r3 : Nat} {ts : List Nat} {lv : List (Nat × Value)} {st : List Value} {h : zH} {pc' : Nat} {lt lf : List (Nat × Value)} {x : Int32} (ht : M.2.1 pc = some (44, len, r1, r2, r3, ts)) (hn : pc + len = pc') (ht2 : zkp (M.2.2.1 r1) lv = lt) (hf2 : zkp (M.2.2.1 pc') lv = lf) (H : zbr (x ≤ 0) (zW (zE d) M Q (r1, lt, st, h)) (zW (zE d) M Q (pc', lf, st, h))) : zW (zE d) M Q (pc, lv, .int x :: st, h) := by
  subst hn
  subst ht2
  subst hf2
  refine zW_in ?_
  show zs (zE d) M Q _ pc lv _ h
  unfold zs
  rw [ht]
  show zo_ifle (zE d) M Q (zW (zE d) M Q) pc len r1 r2 r3 ts lv (.int x :: st) h
  exact H
theorem zq_iceq {d : Nat} {M : zM} {Q : zR → zH → Prop} {pc len r1 r2 r3 : Nat} {ts : List Nat} {lv : List (Nat × Value)} {st : List Value} {h : zH} {pc' : Nat}  {x y : Int32} (ht : M.2.1 pc = some (45, len, r1, r2, r3, ts)) (hn : pc + len = pc') (hk1 : M.2.2.1 r1 = none) (hk2 : M.2.2.1 pc' = none) (H : zbr (x = y) (zW (zE d) M Q (r1, lv, st, h)) (zW (zE d) M Q (pc', lv, st, h))) : zW (zE d) M Q (pc, lv, .int y :: .int x :: st, h) := by
  subst hn
  refine zW_in ?_
  show zs (zE d) M Q _ pc lv _ h
  unfold zs
  rw [ht]
  show zo_iceq (zE d) M Q (zW (zE d) M Q) pc len r1 r2 r3 ts lv (.int y :: .int x :: st) h
  unfold zo_iceq
  rw [hk1, hk2]
  exact H
theorem zq_iceq_c {d : Nat} {M : zM} {Q : zR → zH → Prop} {pc len r1 r2 r3 : Nat} {ts : List Nat} {lv : List (Nat × Value)} {st : List Value} {h : zH} {pc' : Nat} {lt lf : List (Nat × Value)} {x y : Int32} (ht : M.2.1 pc = some (45, len, r1, r2, r3, ts)) (hn : pc + len = pc') (ht2 : zkp (M.2.2.1 r1) lv = lt) (hf2 : zkp (M.2.2.1 pc') lv = lf) (H : zbr (x = y) (zW (zE d) M Q (r1, lt, st, h)) (zW (zE d) M Q (pc', lf, st, h))) : zW (zE d) M Q (pc, lv, .int y :: .int x :: st, h) := by
  subst hn
  subst ht2
  subst hf2
  refine zW_in ?_
  show zs (zE d) M Q _ pc lv _ h
  unfold zs
  rw [ht]
  show zo_iceq (zE d) M Q (zW (zE d) M Q) pc len r1 r2 r3 ts lv (.int y :: .int x :: st) h
  exact H
theorem zq_icne {d : Nat} {M : zM} {Q : zR → zH → Prop} {pc len r1 r2 r3 : Nat} {ts : List Nat} {lv : List (Nat × Value)} {st : List Value} {h : zH} {pc' : Nat}  {x y : Int32} (ht : M.2.1 pc = some (46, len, r1, r2, r3, ts)) (hn : pc + len = pc') (hk1 : M.2.2.1 r1 = none) (hk2 : M.2.2.1 pc' = none) (H : zbr (x = y) (zW (zE d) M Q (pc', lv, st, h)) (zW (zE d) M Q (r1, lv, st, h))) : zW (zE d) M Q (pc, lv, .int y :: .int x :: st, h) := by
  subst hn
  refine zW_in ?_
  show zs (zE d) M Q _ pc lv _ h
  unfold zs
  rw [ht]
  show zo_icne (zE d) M Q (zW (zE d) M Q) pc len r1 r2 r3 ts lv (.int y :: .int x :: st) h
  unfold zo_icne
  rw [hk1, hk2]
  exact H
theorem zq_icne_c {d : Nat} {M : zM} {Q : zR → zH → Prop} {pc len r1 r2 r3 : Nat} {ts : List Nat} {lv : List (Nat × Value)} {st : List Value} {h : zH} {pc' : Nat} {lt lf : List (Nat × Value)} {x y : Int32} (ht : M.2.1 pc = some (46, len, r1, r2, r3, ts)) (hn : pc + len = pc') (ht2 : zkp (M.2.2.1 r1) lv = lt) (hf2 : zkp (M.2.2.1 pc') lv = lf) (H : zbr (x = y) (zW (zE d) M Q (pc', lf, st, h)) (zW (zE d) M Q (r1, lt, st, h))) : zW (zE d) M Q (pc, lv, .int y :: .int x :: st, h) := by
  subst hn
  subst ht2
  subst hf2
  refine zW_in ?_
  show zs (zE d) M Q _ pc lv _ h
  unfold zs
  rw [ht]
  show zo_icne (zE d) M Q (zW (zE d) M Q) pc len r1 r2 r3 ts lv (.int y :: .int x :: st) h
  exact H
theorem zq_iclt {d : Nat} {M : zM} {Q : zR → zH → Prop} {pc len r1 r2 r3 : Nat} {ts : List Nat} {lv : List (Nat × Value)} {st : List Value} {h : zH} {pc' : Nat}  {x y : Int32} (ht : M.2.1 pc = some (47, len, r1, r2, r3, ts)) (hn : pc + len = pc') (hk1 : M.2.2.1 r1 = none) (hk2 : M.2.2.1 pc' = none) (H : zbr (x < y) (zW (zE d) M Q (r1, lv, st, h)) (zW (zE d) M Q (pc', lv, st, h))) : zW (zE d) M Q (pc, lv, .int y :: .int x :: st, h) := by
  subst hn
  refine zW_in ?_
  show zs (zE d) M Q _ pc lv _ h
  unfold zs
  rw [ht]
  show zo_iclt (zE d) M Q (zW (zE d) M Q) pc len r1 r2 r3 ts lv (.int y :: .int x :: st) h
  unfold zo_iclt
  rw [hk1, hk2]
  exact H
theorem zq_iclt_c {d : Nat} {M : zM} {Q : zR → zH → Prop} {pc len r1 r2 r3 : Nat} {ts : List Nat} {lv : List (Nat × Value)} {st : List Value} {h : zH} {pc' : Nat} {lt lf : List (Nat × Value)} {x y : Int32} (ht : M.2.1 pc = some (47, len, r1, r2, r3, ts)) (hn : pc + len = pc') (ht2 : zkp (M.2.2.1 r1) lv = lt) (hf2 : zkp (M.2.2.1 pc') lv = lf) (H : zbr (x < y) (zW (zE d) M Q (r1, lt, st, h)) (zW (zE d) M Q (pc', lf, st, h))) : zW (zE d) M Q (pc, lv, .int y :: .int x :: st, h) := by
  subst hn
  subst ht2
  subst hf2
  refine zW_in ?_
  show zs (zE d) M Q _ pc lv _ h
  unfold zs
  rw [ht]
  show zo_iclt (zE d) M Q (zW (zE d) M Q) pc len r1 r2 r3 ts lv (.int y :: .int x :: st) h
  exact H
theorem zq_icge {d : Nat} {M : zM} {Q : zR → zH → Prop} {pc len r1 r2 r3 : Nat} {ts : List Nat} {lv : List (Nat × Value)} {st : List Value} {h : zH} {pc' : Nat}  {x y : Int32} (ht : M.2.1 pc = some (48, len, r1, r2, r3, ts)) (hn : pc + len = pc') (hk1 : M.2.2.1 r1 = none) (hk2 : M.2.2.1 pc' = none) (H : zbr (y ≤ x) (zW (zE d) M Q (r1, lv, st, h)) (zW (zE d) M Q (pc', lv, st, h))) : zW (zE d) M Q (pc, lv, .int y :: .int x :: st, h) := by
  subst hn
  refine zW_in ?_
  show zs (zE d) M Q _ pc lv _ h
  unfold zs
  rw [ht]
  show zo_icge (zE d) M Q (zW (zE d) M Q) pc len r1 r2 r3 ts lv (.int y :: .int x :: st) h
  unfold zo_icge
  rw [hk1, hk2]
  exact H
theorem zq_icge_c {d : Nat} {M : zM} {Q : zR → zH → Prop} {pc len r1 r2 r3 : Nat} {ts : List Nat} {lv : List (Nat × Value)} {st : List Value} {h : zH} {pc' : Nat} {lt lf : List (Nat × Value)} {x y : Int32} (ht : M.2.1 pc = some (48, len, r1, r2, r3, ts)) (hn : pc + len = pc') (ht2 : zkp (M.2.2.1 r1) lv = lt) (hf2 : zkp (M.2.2.1 pc') lv = lf) (H : zbr (y ≤ x) (zW (zE d) M Q (r1, lt, st, h)) (zW (zE d) M Q (pc', lf, st, h))) : zW (zE d) M Q (pc, lv, .int y :: .int x :: st, h) := by
  subst hn
  subst ht2
  subst hf2
  refine zW_in ?_
  show zs (zE d) M Q _ pc lv _ h
  unfold zs
  rw [ht]
  show zo_icge (zE d) M Q (zW (zE d) M Q) pc len r1 r2 r3 ts lv (.int y :: .int x :: st) h
  exact H
theorem zq_icgt {d : Nat} {M : zM} {Q : zR → zH → Prop} {pc len r1 r2 r3 : Nat} {ts : List Nat} {lv : List (Nat × Value)} {st : List Value} {h : zH} {pc' : Nat}  {x y : Int32} (ht : M.2.1 pc = some (49, len, r1, r2, r3, ts)) (hn : pc + len = pc') (hk1 : M.2.2.1 r1 = none) (hk2 : M.2.2.1 pc' = none) (H : zbr (y < x) (zW (zE d) M Q (r1, lv, st, h)) (zW (zE d) M Q (pc', lv, st, h))) : zW (zE d) M Q (pc, lv, .int y :: .int x :: st, h) := by
  subst hn
  refine zW_in ?_
  show zs (zE d) M Q _ pc lv _ h
  unfold zs
  rw [ht]
  show zo_icgt (zE d) M Q (zW (zE d) M Q) pc len r1 r2 r3 ts lv (.int y :: .int x :: st) h
  unfold zo_icgt
  rw [hk1, hk2]
  exact H
theorem zq_icgt_c {d : Nat} {M : zM} {Q : zR → zH → Prop} {pc len r1 r2 r3 : Nat} {ts : List Nat} {lv : List (Nat × Value)} {st : List Value} {h : zH} {pc' : Nat} {lt lf : List (Nat × Value)} {x y : Int32} (ht : M.2.1 pc = some (49, len, r1, r2, r3, ts)) (hn : pc + len = pc') (ht2 : zkp (M.2.2.1 r1) lv = lt) (hf2 : zkp (M.2.2.1 pc') lv = lf) (H : zbr (y < x) (zW (zE d) M Q (r1, lt, st, h)) (zW (zE d) M Q (pc', lf, st, h))) : zW (zE d) M Q (pc, lv, .int y :: .int x :: st, h) := by
  subst hn
  subst ht2
  subst hf2
  refine zW_in ?_
  show zs (zE d) M Q _ pc lv _ h
  unfold zs
  rw [ht]
  show zo_icgt (zE d) M Q (zW (zE d) M Q) pc len r1 r2 r3 ts lv (.int y :: .int x :: st) h
  exact H
theorem zq_icle {d : Nat} {M : zM} {Q : zR → zH → Prop} {pc len r1 r2 r3 : Nat} {ts : List Nat} {lv : List (Nat × Value)} {st : List Value} {h : zH} {pc' : Nat}  {x y : Int32} (ht : M.2.1 pc = some (50, len, r1, r2, r3, ts)) (hn : pc + len = pc') (hk1 : M.2.2.1 r1 = none) (hk2 : M.2.2.1 pc' = none) (H : zbr (x ≤ y) (zW (zE d) M Q (r1, lv, st, h)) (zW (zE d) M Q (pc', lv, st, h))) : zW (zE d) M Q (pc, lv, .int y :: .int x :: st, h) := by
  subst hn
  refine zW_in ?_
  show zs (zE d) M Q _ pc lv _ h
  unfold zs
  rw [ht]
  show zo_icle (zE d) M Q (zW (zE d) M Q) pc len r1 r2 r3 ts lv (.int y :: .int x :: st) h
  unfold zo_icle
  rw [hk1, hk2]
  exact H
theorem zq_icle_c {d : Nat} {M : zM} {Q : zR → zH → Prop} {pc len r1 r2 r3 : Nat} {ts : List Nat} {lv : List (Nat × Value)} {st : List Value} {h : zH} {pc' : Nat} {lt lf : List (Nat × Value)} {x y : Int32} (ht : M.2.1 pc = some (50, len, r1, r2, r3, ts)) (hn : pc + len = pc') (ht2 : zkp (M.2.2.1 r1) lv = lt) (hf2 : zkp (M.2.2.1 pc') lv = lf) (H : zbr (x ≤ y) (zW (zE d) M Q (r1, lt, st, h)) (zW (zE d) M Q (pc', lf, st, h))) : zW (zE d) M Q (pc, lv, .int y :: .int x :: st, h) := by
  subst hn
  subst ht2
  subst hf2
  refine zW_in ?_
  show zs (zE d) M Q _ pc lv _ h
  unfold zs
  rw [ht]
  show zo_icle (zE d) M Q (zW (zE d) M Q) pc len r1 r2 r3 ts lv (.int y :: .int x :: st) h
  exact H
theorem zq_switch {d : Nat} {M : zM} {Q : zR → zH → Prop} {pc len r1 r2 : Nat} {ts : List Nat} {lv : List (Nat × Value)} {st : List Value} {h : zH} {x : Int32} (ht : M.2.1 pc = some (51, len, r1, r2, 0, ts)) (H : zsw x (fun t => zW (zE d) M Q (t, zkp (M.2.2.1 t) lv, st, h)) r1 r2 ts) : zW (zE d) M Q (pc, lv, .int x :: st, h) := by
  refine zW_in ?_
  show zs (zE d) M Q _ pc lv _ h
  unfold zs
  rw [ht]
  show zo_switch (zE d) M Q (zW (zE d) M Q) pc len r1 r2 0 ts lv (.int x :: st) h
  unfold zo_switch
  exact H
theorem zq_switchn {d : Nat} {M : zM} {Q : zR → zH → Prop} {pc len r1 r2 : Nat} {ts : List Nat} {lv : List (Nat × Value)} {st : List Value} {h : zH} {x : Int32} (ht : M.2.1 pc = some (51, len, r1, r2, 1, ts)) (H : zswn x (fun t => zW (zE d) M Q (t, zkp (M.2.2.1 t) lv, st, h)) r1 r2 ts) : zW (zE d) M Q (pc, lv, .int x :: st, h) := by
  refine zW_in ?_
  show zs (zE d) M Q _ pc lv _ h
  unfold zs
  rw [ht]
  show zo_switch (zE d) M Q (zW (zE d) M Q) pc len r1 r2 1 ts lv (.int x :: st) h
  unfold zo_switch
  exact H
theorem zq_throw {d : Nat} {M : zM} {Q : zR → zH → Prop} {pc len r1 r2 r3 : Nat} {ts : List Nat} {lv : List (Nat × Value)} {st : List Value} {h : zH} {h1 : zH} (ht : M.2.1 pc = some (66, len, r1, r2, r3, ts)) (hz : Nat.ble (zsz st) 20 = true) (e : znx h = some h1) (H : Q (.inr r1) h1) : zW (zE d) M Q (pc, lv, st, h) := by
  refine zW_in ?_
  show zs (zE d) M Q _ pc lv _ h
  unfold zs
  rw [ht]
  show zo_throw (zE d) M Q (zW (zE d) M Q) pc len r1 r2 r3 ts lv (st) h
  unfold zo_throw
  exact ⟨hz, h1, e, H⟩
theorem zq_iret {d : Nat} {M : zM} {Q : zR → zH → Prop} {pc len r1 r2 r3 : Nat} {ts : List Nat} {lv : List (Nat × Value)} {h : zH} {x : Int32} (ht : M.2.1 pc = some (72, len, r1, r2, r3, ts)) (e : zfit M.1 x) (H : Q (.inl (some (.int x))) h) : zW (zE d) M Q (pc, lv, [.int x], h) := by
  refine zW_in ?_
  show zs (zE d) M Q _ pc lv _ h
  unfold zs
  rw [ht]
  show zo_iret (zE d) M Q (zW (zE d) M Q) pc len r1 r2 r3 ts lv ([.int x]) h
  unfold zo_iret
  exact ⟨e, H⟩
theorem zq_lret {d : Nat} {M : zM} {Q : zR → zH → Prop} {pc len r1 r2 r3 : Nat} {ts : List Nat} {lv : List (Nat × Value)} {h : zH} {x : Int64} (ht : M.2.1 pc = some (73, len, r1, r2, r3, ts)) (H : Q (.inl (some (.long x))) h) : zW (zE d) M Q (pc, lv, [.long x], h) := by
  refine zW_in ?_
  show zs (zE d) M Q _ pc lv _ h
  unfold zs
  rw [ht]
  show zo_lret (zE d) M Q (zW (zE d) M Q) pc len r1 r2 r3 ts lv ([.long x]) h
  unfold zo_lret
  exact H
theorem zq_aret {d : Nat} {M : zM} {Q : zR → zH → Prop} {pc len r1 r2 r3 : Nat} {ts : List Nat} {lv : List (Nat × Value)} {h : zH} {x : Nat} (ht : M.2.1 pc = some (74, len, r1, r2, r3, ts)) (H : Q (.inl (some (.ref x))) h) : zW (zE d) M Q (pc, lv, [.ref x], h) := by
  refine zW_in ?_
  show zs (zE d) M Q _ pc lv _ h
  unfold zs
  rw [ht]
  show zo_aret (zE d) M Q (zW (zE d) M Q) pc len r1 r2 r3 ts lv ([.ref x]) h
  unfold zo_aret
  exact H
theorem zq_vret {d : Nat} {M : zM} {Q : zR → zH → Prop} {pc len r1 r2 r3 : Nat} {ts : List Nat} {lv : List (Nat × Value)} {h : zH}  (ht : M.2.1 pc = some (75, len, r1, r2, r3, ts)) (H : Q (.inl none) h) : zW (zE d) M Q (pc, lv, [], h) := by
  refine zW_in ?_
  show zs (zE d) M Q _ pc lv _ h
  unfold zs
  rw [ht]
  show zo_vret (zE d) M Q (zW (zE d) M Q) pc len r1 r2 r3 ts lv ([]) h
  unfold zo_vret
  exact H
theorem zq_callv {d : Nat} {M : zM} {Q : zR → zH → Prop} {pc len r1 r2 : Nat} {ts : List Nat} {lv : List (Nat × Value)} {st : List Value} {h : zH} {pc' : Nat} {as st0 : List Value} (ht : M.2.1 pc = some (68, len, r1, r2, 0, ts)) (hn : pc + len = pc') (hk : M.2.2.1 pc' = none) (hx : M.2.2.2 = []) (hp : zpop r2 [] st0 = some (as, st)) (hz : Nat.ble (zsz st) 20 = true) (H : zE d r1 as h (fun r h2 => match r with
    | .inl v => v = none ∧ zW (zE d) M Q (pc', lv, st, h2)
    | .inr x => Q (.inr x) h2)) : zW (zE d) M Q (pc, lv, st0, h) := by
  subst hn
  refine zW_in ?_
  show zs (zE d) M Q _ pc lv _ h
  unfold zs
  rw [ht]
  show zo_call (zE d) M Q (zW (zE d) M Q) pc len r1 r2 0 ts lv st0 h
  unfold zo_call
  rw [hp]
  refine And.intro hz (zE_mono H (fun r h2 H => ?_))
  cases r with
  | inl v => simp only [zrt]; rw [hk]; exact H
  | inr x => show zX _ _ _ _ _ _ M.2.2.2; rw [hx]; exact H
theorem zq_calli {d : Nat} {M : zM} {Q : zR → zH → Prop} {pc len r1 r2 : Nat} {ts : List Nat} {lv : List (Nat × Value)} {st : List Value} {h : zH} {pc' : Nat} {as st0 : List Value} (ht : M.2.1 pc = some (68, len, r1, r2, 1, ts)) (hn : pc + len = pc') (hk : M.2.2.1 pc' = none) (hx : M.2.2.2 = []) (hp : zpop r2 [] st0 = some (as, st)) (hz : Nat.ble (zsz st) 20 = true) (H : zE d r1 as h (fun r h2 => match r with
    | .inl v => ∃ x : Int32, v = some (.int x) ∧ zW (zE d) M Q (pc', lv, .int x :: st, h2)
    | .inr x => Q (.inr x) h2)) : zW (zE d) M Q (pc, lv, st0, h) := by
  subst hn
  refine zW_in ?_
  show zs (zE d) M Q _ pc lv _ h
  unfold zs
  rw [ht]
  show zo_call (zE d) M Q (zW (zE d) M Q) pc len r1 r2 1 ts lv st0 h
  unfold zo_call
  rw [hp]
  refine And.intro hz (zE_mono H (fun r h2 H => ?_))
  cases r with
  | inl v => simp only [zrt]; rw [hk]; exact H
  | inr x => show zX _ _ _ _ _ _ M.2.2.2; rw [hx]; exact H
theorem zq_calll {d : Nat} {M : zM} {Q : zR → zH → Prop} {pc len r1 r2 : Nat} {ts : List Nat} {lv : List (Nat × Value)} {st : List Value} {h : zH} {pc' : Nat} {as st0 : List Value} (ht : M.2.1 pc = some (68, len, r1, r2, 2, ts)) (hn : pc + len = pc') (hk : M.2.2.1 pc' = none) (hx : M.2.2.2 = []) (hp : zpop r2 [] st0 = some (as, st)) (hz : Nat.ble (zsz st) 20 = true) (H : zE d r1 as h (fun r h2 => match r with
    | .inl v => ∃ x : Int64, v = some (.long x) ∧ zW (zE d) M Q (pc', lv, .long x :: st, h2)
    | .inr x => Q (.inr x) h2)) : zW (zE d) M Q (pc, lv, st0, h) := by
  subst hn
  refine zW_in ?_
  show zs (zE d) M Q _ pc lv _ h
  unfold zs
  rw [ht]
  show zo_call (zE d) M Q (zW (zE d) M Q) pc len r1 r2 2 ts lv st0 h
  unfold zo_call
  rw [hp]
  refine And.intro hz (zE_mono H (fun r h2 H => ?_))
  cases r with
  | inl v => simp only [zrt]; rw [hk]; exact H
  | inr x => show zX _ _ _ _ _ _ M.2.2.2; rw [hx]; exact H
theorem zq_callr {d : Nat} {M : zM} {Q : zR → zH → Prop} {pc len r1 r2 : Nat} {ts : List Nat} {lv : List (Nat × Value)} {st : List Value} {h : zH} {pc' : Nat} {as st0 : List Value} (ht : M.2.1 pc = some (68, len, r1, r2, 3, ts)) (hn : pc + len = pc') (hk : M.2.2.1 pc' = none) (hx : M.2.2.2 = []) (hp : zpop r2 [] st0 = some (as, st)) (hz : Nat.ble (zsz st) 20 = true) (H : zE d r1 as h (fun r h2 => match r with
    | .inl v => ∃ x : Nat, v = some (.ref x) ∧ zW (zE d) M Q (pc', lv, .ref x :: st, h2)
    | .inr x => Q (.inr x) h2)) : zW (zE d) M Q (pc, lv, st0, h) := by
  subst hn
  refine zW_in ?_
  show zs (zE d) M Q _ pc lv _ h
  unfold zs
  rw [ht]
  show zo_call (zE d) M Q (zW (zE d) M Q) pc len r1 r2 3 ts lv st0 h
  unfold zo_call
  rw [hp]
  refine And.intro hz (zE_mono H (fun r h2 H => ?_))
  cases r with
  | inl v => simp only [zrt]; rw [hk]; exact H
  | inr x => show zX _ _ _ _ _ _ M.2.2.2; rw [hx]; exact H
theorem zq_nop {d : Nat} {M : zM} {Q : zR → zH → Prop} {pc len r1 r2 r3 : Nat} {ts : List Nat} {lv : List (Nat × Value)} {st : List Value} {h : zH} {pc' : Nat} {st0 : List Value} (ht : M.2.1 pc = some (69, len, r1, r2, r3, ts)) (hn : pc + len = pc') (hk : M.2.2.1 pc' = none) {a : Nat} (hp : zpop r2 [] st0 = some ([.ref a], st)) (hz : Nat.ble (zsz st) 20 = true) (H : zW (zE d) M Q (pc', lv, st, h)) : zW (zE d) M Q (pc, lv, st0, h) := by
  subst hn
  refine zW_in ?_
  show zs (zE d) M Q _ pc lv _ h
  unfold zs
  rw [ht]
  show zo_nop (zE d) M Q (zW (zE d) M Q) pc len r1 r2 r3 ts lv st0 h
  unfold zo_nop
  rw [hp]
  refine ⟨⟨a, rfl⟩, hz, ?_⟩; rw [hk]; exact H
theorem zq_callv_c {d : Nat} {M : zM} {Q : zR → zH → Prop} {pc len r1 r2 : Nat} {ts : List Nat} {lv : List (Nat × Value)} {st : List Value} {h : zH} {pc' : Nat} {as st0 : List Value} (ht : M.2.1 pc = some (68, len, r1, r2, 0, ts)) (hn : pc + len = pc') (hx : M.2.2.2 = []) (hp : zpop r2 [] st0 = some (as, st)) (hz : Nat.ble (zsz st) 20 = true) (H : zE d r1 as h (fun r h2 => match r with
    | .inl v => v = none ∧ zW (zE d) M Q (pc', zkp (M.2.2.1 pc') lv, st, h2)
    | .inr x => Q (.inr x) h2)) : zW (zE d) M Q (pc, lv, st0, h) := by
  subst hn
  refine zW_in ?_
  show zs (zE d) M Q _ pc lv _ h
  unfold zs
  rw [ht]
  show zo_call (zE d) M Q (zW (zE d) M Q) pc len r1 r2 0 ts lv st0 h
  unfold zo_call
  rw [hp]
  refine And.intro hz (zE_mono H (fun r h2 H => ?_))
  cases r with
  | inl v => exact H
  | inr x => show zX _ _ _ _ _ _ M.2.2.2; rw [hx]; exact H
theorem zq_calli_c {d : Nat} {M : zM} {Q : zR → zH → Prop} {pc len r1 r2 : Nat} {ts : List Nat} {lv : List (Nat × Value)} {st : List Value} {h : zH} {pc' : Nat} {as st0 : List Value} (ht : M.2.1 pc = some (68, len, r1, r2, 1, ts)) (hn : pc + len = pc') (hx : M.2.2.2 = []) (hp : zpop r2 [] st0 = some (as, st)) (hz : Nat.ble (zsz st) 20 = true) (H : zE d r1 as h (fun r h2 => match r with
    | .inl v => ∃ x : Int32, v = some (.int x) ∧ zW (zE d) M Q (pc', zkp (M.2.2.1 pc') lv, .int x :: st, h2)
    | .inr x => Q (.inr x) h2)) : zW (zE d) M Q (pc, lv, st0, h) := by
  subst hn
  refine zW_in ?_
  show zs (zE d) M Q _ pc lv _ h
  unfold zs
  rw [ht]
  show zo_call (zE d) M Q (zW (zE d) M Q) pc len r1 r2 1 ts lv st0 h
  unfold zo_call
  rw [hp]
  refine And.intro hz (zE_mono H (fun r h2 H => ?_))
  cases r with
  | inl v => exact H
  | inr x => show zX _ _ _ _ _ _ M.2.2.2; rw [hx]; exact H
theorem zq_calll_c {d : Nat} {M : zM} {Q : zR → zH → Prop} {pc len r1 r2 : Nat} {ts : List Nat} {lv : List (Nat × Value)} {st : List Value} {h : zH} {pc' : Nat} {as st0 : List Value} (ht : M.2.1 pc = some (68, len, r1, r2, 2, ts)) (hn : pc + len = pc') (hx : M.2.2.2 = []) (hp : zpop r2 [] st0 = some (as, st)) (hz : Nat.ble (zsz st) 20 = true) (H : zE d r1 as h (fun r h2 => match r with
    | .inl v => ∃ x : Int64, v = some (.long x) ∧ zW (zE d) M Q (pc', zkp (M.2.2.1 pc') lv, .long x :: st, h2)
    | .inr x => Q (.inr x) h2)) : zW (zE d) M Q (pc, lv, st0, h) := by
  subst hn
  refine zW_in ?_
  show zs (zE d) M Q _ pc lv _ h
  unfold zs
  rw [ht]
  show zo_call (zE d) M Q (zW (zE d) M Q) pc len r1 r2 2 ts lv st0 h
  unfold zo_call
  rw [hp]
  refine And.intro hz (zE_mono H (fun r h2 H => ?_))
  cases r with
  | inl v => exact H
  | inr x => show zX _ _ _ _ _ _ M.2.2.2; rw [hx]; exact H
theorem zq_callr_c {d : Nat} {M : zM} {Q : zR → zH → Prop} {pc len r1 r2 : Nat} {ts : List Nat} {lv : List (Nat × Value)} {st : List Value} {h : zH} {pc' : Nat} {as st0 : List Value} (ht : M.2.1 pc = some (68, len, r1, r2, 3, ts)) (hn : pc + len = pc') (hx : M.2.2.2 = []) (hp : zpop r2 [] st0 = some (as, st)) (hz : Nat.ble (zsz st) 20 = true) (H : zE d r1 as h (fun r h2 => match r with
    | .inl v => ∃ x : Nat, v = some (.ref x) ∧ zW (zE d) M Q (pc', zkp (M.2.2.1 pc') lv, .ref x :: st, h2)
    | .inr x => Q (.inr x) h2)) : zW (zE d) M Q (pc, lv, st0, h) := by
  subst hn
  refine zW_in ?_
  show zs (zE d) M Q _ pc lv _ h
  unfold zs
  rw [ht]
  show zo_call (zE d) M Q (zW (zE d) M Q) pc len r1 r2 3 ts lv st0 h
  unfold zo_call
  rw [hp]
  refine And.intro hz (zE_mono H (fun r h2 H => ?_))
  cases r with
  | inl v => exact H
  | inr x => show zX _ _ _ _ _ _ M.2.2.2; rw [hx]; exact H
theorem zq_nop_c {d : Nat} {M : zM} {Q : zR → zH → Prop} {pc len r1 r2 r3 : Nat} {ts : List Nat} {lv : List (Nat × Value)} {st : List Value} {h : zH} {pc' : Nat} {st0 : List Value} (ht : M.2.1 pc = some (69, len, r1, r2, r3, ts)) (hn : pc + len = pc') {a : Nat} (hp : zpop r2 [] st0 = some ([.ref a], st)) (hz : Nat.ble (zsz st) 20 = true) (H : zW (zE d) M Q (pc', zkp (M.2.2.1 pc') lv, st, h)) : zW (zE d) M Q (pc, lv, st0, h) := by
  subst hn
  refine zW_in ?_
  show zs (zE d) M Q _ pc lv _ h
  unfold zs
  rw [ht]
  show zo_nop (zE d) M Q (zW (zE d) M Q) pc len r1 r2 r3 ts lv st0 h
  unfold zo_nop
  rw [hp]
  exact ⟨⟨a, rfl⟩, hz, H⟩

