/-- a callee's end may be weakened -/
def zMo (E : Nat → List Value → zH → (zR → zH → Prop) → Prop) : Prop := ∀ (y : Nat) (as : List Value) (h : zH) (Q Q' : zR → zH → Prop), E y as h Q → (∀ r h, Q r h → Q' r h) → E y as h Q'
theorem zbr_mo {c a b a' b' : Prop} (h : zbr c a b) (ha : a → a') (hb : b → b') : zbr c a' b' := ⟨fun q => ha (h.1 q), fun q => hb (h.2 q)⟩
theorem zsw_mo {x : Int32} {P P' : Nat → Prop} (hP : ∀ t, P t → P' t) (d : Nat) : ∀ (ts : List Nat) (lo : Nat), zsw x P d lo ts → zsw x P' d lo ts
  | [], _, h => hP d h
  | t :: ts, lo, h => zbr_mo h (hP t) (zsw_mo hP d ts (lo + 1))
theorem zswn_mo {x : Int32} {P P' : Nat → Prop} (hP : ∀ t, P t → P' t) (d : Nat) : ∀ (ts : List Nat) (lo : Nat), zswn x P d lo ts → zswn x P' d lo ts
  | [], _, h => hP d h
  | t :: ts, lo, h => zbr_mo h (hP t) (zswn_mo hP d ts (lo - 1))
theorem zrt_mo {r3 : Nat} {v : Option Value} {k k' : List Value → Prop} (h : zrt r3 v k) (hk : ∀ vs, k vs → k' vs) : zrt r3 v k' := by
  unfold zrt at h ⊢
  split at h <;> rename_i q
  · exact ⟨h.1, hk _ h.2⟩
  · obtain ⟨x, e, h⟩ := h; exact ⟨x, e, hk _ h⟩
  · obtain ⟨x, e, h⟩ := h; exact ⟨x, e, hk _ h⟩
  · obtain ⟨x, e, h⟩ := h; exact ⟨x, e, hk _ h⟩
theorem zX_mo {Q Q' : zR → zH → Prop} {P P' : zF → Prop} {pc : Nat} {lv : List (Nat × Value)} {x : Nat} {h : zH} (hQ : ∀ r h, Q r h → Q' r h) (hP : ∀ f, P f → P' f) : ∀ (l : List (Nat × Nat × Nat × Nat × Nat)), zX Q P pc lv x h l → zX Q' P' pc lv x h l
  | [], k => hQ _ _ k
  | (a, b, e, t, i) :: r, k => ⟨fun q => hP _ (k.1 q), fun q => zX_mo hQ hP r (k.2 q)⟩
theorem zo_ipush_mo {E : Nat → List Value → zH → (zR → zH → Prop) → Prop} {M : zM} {Q Q' : zR → zH → Prop} {P P' : zF → Prop} {pc len r1 r2 r3 : Nat} {ts : List Nat} {lv : List (Nat × Value)} {st : List Value} {h : zH} (hE : zMo E) (hQ : ∀ r h, Q r h → Q' r h) (hP : ∀ f, P f → P' f) (H : zo_ipush E M Q P pc len r1 r2 r3 ts lv st h) : zo_ipush E M Q' P' pc len r1 r2 r3 ts lv st h := by
  exact hP _ H
theorem zo_ipushn_mo {E : Nat → List Value → zH → (zR → zH → Prop) → Prop} {M : zM} {Q Q' : zR → zH → Prop} {P P' : zF → Prop} {pc len r1 r2 r3 : Nat} {ts : List Nat} {lv : List (Nat × Value)} {st : List Value} {h : zH} (hE : zMo E) (hQ : ∀ r h, Q r h → Q' r h) (hP : ∀ f, P f → P' f) (H : zo_ipushn E M Q P pc len r1 r2 r3 ts lv st h) : zo_ipushn E M Q' P' pc len r1 r2 r3 ts lv st h := by
  exact hP _ H
theorem zo_lpush_mo {E : Nat → List Value → zH → (zR → zH → Prop) → Prop} {M : zM} {Q Q' : zR → zH → Prop} {P P' : zF → Prop} {pc len r1 r2 r3 : Nat} {ts : List Nat} {lv : List (Nat × Value)} {st : List Value} {h : zH} (hE : zMo E) (hQ : ∀ r h, Q r h → Q' r h) (hP : ∀ f, P f → P' f) (H : zo_lpush E M Q P pc len r1 r2 r3 ts lv st h) : zo_lpush E M Q' P' pc len r1 r2 r3 ts lv st h := by
  exact hP _ H
theorem zo_lpushn_mo {E : Nat → List Value → zH → (zR → zH → Prop) → Prop} {M : zM} {Q Q' : zR → zH → Prop} {P P' : zF → Prop} {pc len r1 r2 r3 : Nat} {ts : List Nat} {lv : List (Nat × Value)} {st : List Value} {h : zH} (hE : zMo E) (hQ : ∀ r h, Q r h → Q' r h) (hP : ∀ f, P f → P' f) (H : zo_lpushn E M Q P pc len r1 r2 r3 ts lv st h) : zo_lpushn E M Q' P' pc len r1 r2 r3 ts lv st h := by
  exact hP _ H
theorem zo_rpush_mo {E : Nat → List Value → zH → (zR → zH → Prop) → Prop} {M : zM} {Q Q' : zR → zH → Prop} {P P' : zF → Prop} {pc len r1 r2 r3 : Nat} {ts : List Nat} {lv : List (Nat × Value)} {st : List Value} {h : zH} (hE : zMo E) (hQ : ∀ r h, Q r h → Q' r h) (hP : ∀ f, P f → P' f) (H : zo_rpush E M Q P pc len r1 r2 r3 ts lv st h) : zo_rpush E M Q' P' pc len r1 r2 r3 ts lv st h := by
  exact hP _ H
theorem zo_iload_mo {E : Nat → List Value → zH → (zR → zH → Prop) → Prop} {M : zM} {Q Q' : zR → zH → Prop} {P P' : zF → Prop} {pc len r1 r2 r3 : Nat} {ts : List Nat} {lv : List (Nat × Value)} {st : List Value} {h : zH} (hE : zMo E) (hQ : ∀ r h, Q r h → Q' r h) (hP : ∀ f, P f → P' f) (H : zo_iload E M Q P pc len r1 r2 r3 ts lv st h) : zo_iload E M Q' P' pc len r1 r2 r3 ts lv st h := by
  unfold zo_iload at H ⊢
  split at H
  · exact hP _ H
  · exact H.elim
theorem zo_lload_mo {E : Nat → List Value → zH → (zR → zH → Prop) → Prop} {M : zM} {Q Q' : zR → zH → Prop} {P P' : zF → Prop} {pc len r1 r2 r3 : Nat} {ts : List Nat} {lv : List (Nat × Value)} {st : List Value} {h : zH} (hE : zMo E) (hQ : ∀ r h, Q r h → Q' r h) (hP : ∀ f, P f → P' f) (H : zo_lload E M Q P pc len r1 r2 r3 ts lv st h) : zo_lload E M Q' P' pc len r1 r2 r3 ts lv st h := by
  unfold zo_lload at H ⊢
  split at H
  · exact hP _ H
  · exact H.elim
theorem zo_aload_mo {E : Nat → List Value → zH → (zR → zH → Prop) → Prop} {M : zM} {Q Q' : zR → zH → Prop} {P P' : zF → Prop} {pc len r1 r2 r3 : Nat} {ts : List Nat} {lv : List (Nat × Value)} {st : List Value} {h : zH} (hE : zMo E) (hQ : ∀ r h, Q r h → Q' r h) (hP : ∀ f, P f → P' f) (H : zo_aload E M Q P pc len r1 r2 r3 ts lv st h) : zo_aload E M Q' P' pc len r1 r2 r3 ts lv st h := by
  unfold zo_aload at H ⊢
  split at H
  · exact hP _ H
  · exact H.elim
theorem zo_istore_mo {E : Nat → List Value → zH → (zR → zH → Prop) → Prop} {M : zM} {Q Q' : zR → zH → Prop} {P P' : zF → Prop} {pc len r1 r2 r3 : Nat} {ts : List Nat} {lv : List (Nat × Value)} {st : List Value} {h : zH} (hE : zMo E) (hQ : ∀ r h, Q r h → Q' r h) (hP : ∀ f, P f → P' f) (H : zo_istore E M Q P pc len r1 r2 r3 ts lv st h) : zo_istore E M Q' P' pc len r1 r2 r3 ts lv st h := by
  unfold zo_istore at H ⊢
  split at H
  · exact hP _ H
  · exact H.elim
theorem zo_astore_mo {E : Nat → List Value → zH → (zR → zH → Prop) → Prop} {M : zM} {Q Q' : zR → zH → Prop} {P P' : zF → Prop} {pc len r1 r2 r3 : Nat} {ts : List Nat} {lv : List (Nat × Value)} {st : List Value} {h : zH} (hE : zMo E) (hQ : ∀ r h, Q r h → Q' r h) (hP : ∀ f, P f → P' f) (H : zo_astore E M Q P pc len r1 r2 r3 ts lv st h) : zo_astore E M Q' P' pc len r1 r2 r3 ts lv st h := by
  unfold zo_astore at H ⊢
  split at H
  · exact hP _ H
  · exact H.elim
theorem zo_lstore_mo {E : Nat → List Value → zH → (zR → zH → Prop) → Prop} {M : zM} {Q Q' : zR → zH → Prop} {P P' : zF → Prop} {pc len r1 r2 r3 : Nat} {ts : List Nat} {lv : List (Nat × Value)} {st : List Value} {h : zH} (hE : zMo E) (hQ : ∀ r h, Q r h → Q' r h) (hP : ∀ f, P f → P' f) (H : zo_lstore E M Q P pc len r1 r2 r3 ts lv st h) : zo_lstore E M Q' P' pc len r1 r2 r3 ts lv st h := by
  unfold zo_lstore at H ⊢
  split at H
  · exact hP _ H
  · exact H.elim
theorem zo_iinc_mo {E : Nat → List Value → zH → (zR → zH → Prop) → Prop} {M : zM} {Q Q' : zR → zH → Prop} {P P' : zF → Prop} {pc len r1 r2 r3 : Nat} {ts : List Nat} {lv : List (Nat × Value)} {st : List Value} {h : zH} (hE : zMo E) (hQ : ∀ r h, Q r h → Q' r h) (hP : ∀ f, P f → P' f) (H : zo_iinc E M Q P pc len r1 r2 r3 ts lv st h) : zo_iinc E M Q' P' pc len r1 r2 r3 ts lv st h := by
  unfold zo_iinc at H ⊢
  split at H
  · exact hP _ H
  · exact H.elim
theorem zo_iincn_mo {E : Nat → List Value → zH → (zR → zH → Prop) → Prop} {M : zM} {Q Q' : zR → zH → Prop} {P P' : zF → Prop} {pc len r1 r2 r3 : Nat} {ts : List Nat} {lv : List (Nat × Value)} {st : List Value} {h : zH} (hE : zMo E) (hQ : ∀ r h, Q r h → Q' r h) (hP : ∀ f, P f → P' f) (H : zo_iincn E M Q P pc len r1 r2 r3 ts lv st h) : zo_iincn E M Q' P' pc len r1 r2 r3 ts lv st h := by
  unfold zo_iincn at H ⊢
  split at H
  · exact hP _ H
  · exact H.elim
theorem zo_iadd_mo {E : Nat → List Value → zH → (zR → zH → Prop) → Prop} {M : zM} {Q Q' : zR → zH → Prop} {P P' : zF → Prop} {pc len r1 r2 r3 : Nat} {ts : List Nat} {lv : List (Nat × Value)} {st : List Value} {h : zH} (hE : zMo E) (hQ : ∀ r h, Q r h → Q' r h) (hP : ∀ f, P f → P' f) (H : zo_iadd E M Q P pc len r1 r2 r3 ts lv st h) : zo_iadd E M Q' P' pc len r1 r2 r3 ts lv st h := by
  unfold zo_iadd at H ⊢
  split at H
  · exact hP _ H
  · exact H.elim
theorem zo_isub_mo {E : Nat → List Value → zH → (zR → zH → Prop) → Prop} {M : zM} {Q Q' : zR → zH → Prop} {P P' : zF → Prop} {pc len r1 r2 r3 : Nat} {ts : List Nat} {lv : List (Nat × Value)} {st : List Value} {h : zH} (hE : zMo E) (hQ : ∀ r h, Q r h → Q' r h) (hP : ∀ f, P f → P' f) (H : zo_isub E M Q P pc len r1 r2 r3 ts lv st h) : zo_isub E M Q' P' pc len r1 r2 r3 ts lv st h := by
  unfold zo_isub at H ⊢
  split at H
  · exact hP _ H
  · exact H.elim
theorem zo_imul_mo {E : Nat → List Value → zH → (zR → zH → Prop) → Prop} {M : zM} {Q Q' : zR → zH → Prop} {P P' : zF → Prop} {pc len r1 r2 r3 : Nat} {ts : List Nat} {lv : List (Nat × Value)} {st : List Value} {h : zH} (hE : zMo E) (hQ : ∀ r h, Q r h → Q' r h) (hP : ∀ f, P f → P' f) (H : zo_imul E M Q P pc len r1 r2 r3 ts lv st h) : zo_imul E M Q' P' pc len r1 r2 r3 ts lv st h := by
  unfold zo_imul at H ⊢
  split at H
  · exact hP _ H
  · exact H.elim
theorem zo_iand_mo {E : Nat → List Value → zH → (zR → zH → Prop) → Prop} {M : zM} {Q Q' : zR → zH → Prop} {P P' : zF → Prop} {pc len r1 r2 r3 : Nat} {ts : List Nat} {lv : List (Nat × Value)} {st : List Value} {h : zH} (hE : zMo E) (hQ : ∀ r h, Q r h → Q' r h) (hP : ∀ f, P f → P' f) (H : zo_iand E M Q P pc len r1 r2 r3 ts lv st h) : zo_iand E M Q' P' pc len r1 r2 r3 ts lv st h := by
  unfold zo_iand at H ⊢
  split at H
  · exact hP _ H
  · exact H.elim
theorem zo_ior_mo {E : Nat → List Value → zH → (zR → zH → Prop) → Prop} {M : zM} {Q Q' : zR → zH → Prop} {P P' : zF → Prop} {pc len r1 r2 r3 : Nat} {ts : List Nat} {lv : List (Nat × Value)} {st : List Value} {h : zH} (hE : zMo E) (hQ : ∀ r h, Q r h → Q' r h) (hP : ∀ f, P f → P' f) (H : zo_ior E M Q P pc len r1 r2 r3 ts lv st h) : zo_ior E M Q' P' pc len r1 r2 r3 ts lv st h := by
  unfold zo_ior at H ⊢
  split at H
  · exact hP _ H
  · exact H.elim
theorem zo_ixor_mo {E : Nat → List Value → zH → (zR → zH → Prop) → Prop} {M : zM} {Q Q' : zR → zH → Prop} {P P' : zF → Prop} {pc len r1 r2 r3 : Nat} {ts : List Nat} {lv : List (Nat × Value)} {st : List Value} {h : zH} (hE : zMo E) (hQ : ∀ r h, Q r h → Q' r h) (hP : ∀ f, P f → P' f) (H : zo_ixor E M Q P pc len r1 r2 r3 ts lv st h) : zo_ixor E M Q' P' pc len r1 r2 r3 ts lv st h := by
  unfold zo_ixor at H ⊢
  split at H
  · exact hP _ H
  · exact H.elim
theorem zo_ishl_mo {E : Nat → List Value → zH → (zR → zH → Prop) → Prop} {M : zM} {Q Q' : zR → zH → Prop} {P P' : zF → Prop} {pc len r1 r2 r3 : Nat} {ts : List Nat} {lv : List (Nat × Value)} {st : List Value} {h : zH} (hE : zMo E) (hQ : ∀ r h, Q r h → Q' r h) (hP : ∀ f, P f → P' f) (H : zo_ishl E M Q P pc len r1 r2 r3 ts lv st h) : zo_ishl E M Q' P' pc len r1 r2 r3 ts lv st h := by
  unfold zo_ishl at H ⊢
  split at H
  · exact hP _ H
  · exact H.elim
theorem zo_ishr_mo {E : Nat → List Value → zH → (zR → zH → Prop) → Prop} {M : zM} {Q Q' : zR → zH → Prop} {P P' : zF → Prop} {pc len r1 r2 r3 : Nat} {ts : List Nat} {lv : List (Nat × Value)} {st : List Value} {h : zH} (hE : zMo E) (hQ : ∀ r h, Q r h → Q' r h) (hP : ∀ f, P f → P' f) (H : zo_ishr E M Q P pc len r1 r2 r3 ts lv st h) : zo_ishr E M Q' P' pc len r1 r2 r3 ts lv st h := by
  unfold zo_ishr at H ⊢
  split at H
  · exact hP _ H
  · exact H.elim
theorem zo_iushr_mo {E : Nat → List Value → zH → (zR → zH → Prop) → Prop} {M : zM} {Q Q' : zR → zH → Prop} {P P' : zF → Prop} {pc len r1 r2 r3 : Nat} {ts : List Nat} {lv : List (Nat × Value)} {st : List Value} {h : zH} (hE : zMo E) (hQ : ∀ r h, Q r h → Q' r h) (hP : ∀ f, P f → P' f) (H : zo_iushr E M Q P pc len r1 r2 r3 ts lv st h) : zo_iushr E M Q' P' pc len r1 r2 r3 ts lv st h := by
  unfold zo_iushr at H ⊢
  split at H
  · exact hP _ H
  · exact H.elim
theorem zo_idiv_mo {E : Nat → List Value → zH → (zR → zH → Prop) → Prop} {M : zM} {Q Q' : zR → zH → Prop} {P P' : zF → Prop} {pc len r1 r2 r3 : Nat} {ts : List Nat} {lv : List (Nat × Value)} {st : List Value} {h : zH} (hE : zMo E) (hQ : ∀ r h, Q r h → Q' r h) (hP : ∀ f, P f → P' f) (H : zo_idiv E M Q P pc len r1 r2 r3 ts lv st h) : zo_idiv E M Q' P' pc len r1 r2 r3 ts lv st h := by
  unfold zo_idiv at H ⊢
  split at H
  · exact ⟨H.1, hP _ H.2⟩
  · exact H.elim
theorem zo_irem_mo {E : Nat → List Value → zH → (zR → zH → Prop) → Prop} {M : zM} {Q Q' : zR → zH → Prop} {P P' : zF → Prop} {pc len r1 r2 r3 : Nat} {ts : List Nat} {lv : List (Nat × Value)} {st : List Value} {h : zH} (hE : zMo E) (hQ : ∀ r h, Q r h → Q' r h) (hP : ∀ f, P f → P' f) (H : zo_irem E M Q P pc len r1 r2 r3 ts lv st h) : zo_irem E M Q' P' pc len r1 r2 r3 ts lv st h := by
  unfold zo_irem at H ⊢
  split at H
  · exact ⟨H.1, hP _ H.2⟩
  · exact H.elim
theorem zo_land_mo {E : Nat → List Value → zH → (zR → zH → Prop) → Prop} {M : zM} {Q Q' : zR → zH → Prop} {P P' : zF → Prop} {pc len r1 r2 r3 : Nat} {ts : List Nat} {lv : List (Nat × Value)} {st : List Value} {h : zH} (hE : zMo E) (hQ : ∀ r h, Q r h → Q' r h) (hP : ∀ f, P f → P' f) (H : zo_land E M Q P pc len r1 r2 r3 ts lv st h) : zo_land E M Q' P' pc len r1 r2 r3 ts lv st h := by
  unfold zo_land at H ⊢
  split at H
  · exact hP _ H
  · exact H.elim
theorem zo_lor_mo {E : Nat → List Value → zH → (zR → zH → Prop) → Prop} {M : zM} {Q Q' : zR → zH → Prop} {P P' : zF → Prop} {pc len r1 r2 r3 : Nat} {ts : List Nat} {lv : List (Nat × Value)} {st : List Value} {h : zH} (hE : zMo E) (hQ : ∀ r h, Q r h → Q' r h) (hP : ∀ f, P f → P' f) (H : zo_lor E M Q P pc len r1 r2 r3 ts lv st h) : zo_lor E M Q' P' pc len r1 r2 r3 ts lv st h := by
  unfold zo_lor at H ⊢
  split at H
  · exact hP _ H
  · exact H.elim
theorem zo_lxor_mo {E : Nat → List Value → zH → (zR → zH → Prop) → Prop} {M : zM} {Q Q' : zR → zH → Prop} {P P' : zF → Prop} {pc len r1 r2 r3 : Nat} {ts : List Nat} {lv : List (Nat × Value)} {st : List Value} {h : zH} (hE : zMo E) (hQ : ∀ r h, Q r h → Q' r h) (hP : ∀ f, P f → P' f) (H : zo_lxor E M Q P pc len r1 r2 r3 ts lv st h) : zo_lxor E M Q' P' pc len r1 r2 r3 ts lv st h := by
  unfold zo_lxor at H ⊢
  split at H
  · exact hP _ H
  · exact H.elim
theorem zo_lshl_mo {E : Nat → List Value → zH → (zR → zH → Prop) → Prop} {M : zM} {Q Q' : zR → zH → Prop} {P P' : zF → Prop} {pc len r1 r2 r3 : Nat} {ts : List Nat} {lv : List (Nat × Value)} {st : List Value} {h : zH} (hE : zMo E) (hQ : ∀ r h, Q r h → Q' r h) (hP : ∀ f, P f → P' f) (H : zo_lshl E M Q P pc len r1 r2 r3 ts lv st h) : zo_lshl E M Q' P' pc len r1 r2 r3 ts lv st h := by
  unfold zo_lshl at H ⊢
  split at H
  · exact hP _ H
  · exact H.elim
theorem zo_lushr_mo {E : Nat → List Value → zH → (zR → zH → Prop) → Prop} {M : zM} {Q Q' : zR → zH → Prop} {P P' : zF → Prop} {pc len r1 r2 r3 : Nat} {ts : List Nat} {lv : List (Nat × Value)} {st : List Value} {h : zH} (hE : zMo E) (hQ : ∀ r h, Q r h → Q' r h) (hP : ∀ f, P f → P' f) (H : zo_lushr E M Q P pc len r1 r2 r3 ts lv st h) : zo_lushr E M Q' P' pc len r1 r2 r3 ts lv st h := by
  unfold zo_lushr at H ⊢
  split at H
  · exact hP _ H
  · exact H.elim
theorem zo_lcmp_mo {E : Nat → List Value → zH → (zR → zH → Prop) → Prop} {M : zM} {Q Q' : zR → zH → Prop} {P P' : zF → Prop} {pc len r1 r2 r3 : Nat} {ts : List Nat} {lv : List (Nat × Value)} {st : List Value} {h : zH} (hE : zMo E) (hQ : ∀ r h, Q r h → Q' r h) (hP : ∀ f, P f → P' f) (H : zo_lcmp E M Q P pc len r1 r2 r3 ts lv st h) : zo_lcmp E M Q' P' pc len r1 r2 r3 ts lv st h := by
  unfold zo_lcmp at H ⊢
  split at H
  · exact hP _ H
  · exact H.elim
theorem zo_i2l_mo {E : Nat → List Value → zH → (zR → zH → Prop) → Prop} {M : zM} {Q Q' : zR → zH → Prop} {P P' : zF → Prop} {pc len r1 r2 r3 : Nat} {ts : List Nat} {lv : List (Nat × Value)} {st : List Value} {h : zH} (hE : zMo E) (hQ : ∀ r h, Q r h → Q' r h) (hP : ∀ f, P f → P' f) (H : zo_i2l E M Q P pc len r1 r2 r3 ts lv st h) : zo_i2l E M Q' P' pc len r1 r2 r3 ts lv st h := by
  unfold zo_i2l at H ⊢
  split at H
  · exact hP _ H
  · exact H.elim
theorem zo_i2b_mo {E : Nat → List Value → zH → (zR → zH → Prop) → Prop} {M : zM} {Q Q' : zR → zH → Prop} {P P' : zF → Prop} {pc len r1 r2 r3 : Nat} {ts : List Nat} {lv : List (Nat × Value)} {st : List Value} {h : zH} (hE : zMo E) (hQ : ∀ r h, Q r h → Q' r h) (hP : ∀ f, P f → P' f) (H : zo_i2b E M Q P pc len r1 r2 r3 ts lv st h) : zo_i2b E M Q' P' pc len r1 r2 r3 ts lv st h := by
  unfold zo_i2b at H ⊢
  split at H
  · exact hP _ H
  · exact H.elim
theorem zo_i2c_mo {E : Nat → List Value → zH → (zR → zH → Prop) → Prop} {M : zM} {Q Q' : zR → zH → Prop} {P P' : zF → Prop} {pc len r1 r2 r3 : Nat} {ts : List Nat} {lv : List (Nat × Value)} {st : List Value} {h : zH} (hE : zMo E) (hQ : ∀ r h, Q r h → Q' r h) (hP : ∀ f, P f → P' f) (H : zo_i2c E M Q P pc len r1 r2 r3 ts lv st h) : zo_i2c E M Q' P' pc len r1 r2 r3 ts lv st h := by
  unfold zo_i2c at H ⊢
  split at H
  · exact hP _ H
  · exact H.elim
theorem zo_ineg_mo {E : Nat → List Value → zH → (zR → zH → Prop) → Prop} {M : zM} {Q Q' : zR → zH → Prop} {P P' : zF → Prop} {pc len r1 r2 r3 : Nat} {ts : List Nat} {lv : List (Nat × Value)} {st : List Value} {h : zH} (hE : zMo E) (hQ : ∀ r h, Q r h → Q' r h) (hP : ∀ f, P f → P' f) (H : zo_ineg E M Q P pc len r1 r2 r3 ts lv st h) : zo_ineg E M Q' P' pc len r1 r2 r3 ts lv st h := by
  unfold zo_ineg at H ⊢
  split at H
  · exact hP _ H
  · exact H.elim
theorem zo_l2i_mo {E : Nat → List Value → zH → (zR → zH → Prop) → Prop} {M : zM} {Q Q' : zR → zH → Prop} {P P' : zF → Prop} {pc len r1 r2 r3 : Nat} {ts : List Nat} {lv : List (Nat × Value)} {st : List Value} {h : zH} (hE : zMo E) (hQ : ∀ r h, Q r h → Q' r h) (hP : ∀ f, P f → P' f) (H : zo_l2i E M Q P pc len r1 r2 r3 ts lv st h) : zo_l2i E M Q' P' pc len r1 r2 r3 ts lv st h := by
  unfold zo_l2i at H ⊢
  split at H
  · exact hP _ H
  · exact H.elim
theorem zo_dup_mo {E : Nat → List Value → zH → (zR → zH → Prop) → Prop} {M : zM} {Q Q' : zR → zH → Prop} {P P' : zF → Prop} {pc len r1 r2 r3 : Nat} {ts : List Nat} {lv : List (Nat × Value)} {st : List Value} {h : zH} (hE : zMo E) (hQ : ∀ r h, Q r h → Q' r h) (hP : ∀ f, P f → P' f) (H : zo_dup E M Q P pc len r1 r2 r3 ts lv st h) : zo_dup E M Q' P' pc len r1 r2 r3 ts lv st h := by
  unfold zo_dup at H ⊢
  split at H
  · exact ⟨H.1, hP _ H.2⟩
  · exact H.elim
theorem zo_dup2_mo {E : Nat → List Value → zH → (zR → zH → Prop) → Prop} {M : zM} {Q Q' : zR → zH → Prop} {P P' : zF → Prop} {pc len r1 r2 r3 : Nat} {ts : List Nat} {lv : List (Nat × Value)} {st : List Value} {h : zH} (hE : zMo E) (hQ : ∀ r h, Q r h → Q' r h) (hP : ∀ f, P f → P' f) (H : zo_dup2 E M Q P pc len r1 r2 r3 ts lv st h) : zo_dup2 E M Q' P' pc len r1 r2 r3 ts lv st h := by
  unfold zo_dup2 at H ⊢
  split at H
  · exact ⟨H.1, H.2.1, hP _ H.2.2⟩
  · exact H.elim
theorem zo_pop_mo {E : Nat → List Value → zH → (zR → zH → Prop) → Prop} {M : zM} {Q Q' : zR → zH → Prop} {P P' : zF → Prop} {pc len r1 r2 r3 : Nat} {ts : List Nat} {lv : List (Nat × Value)} {st : List Value} {h : zH} (hE : zMo E) (hQ : ∀ r h, Q r h → Q' r h) (hP : ∀ f, P f → P' f) (H : zo_pop E M Q P pc len r1 r2 r3 ts lv st h) : zo_pop E M Q' P' pc len r1 r2 r3 ts lv st h := by
  unfold zo_pop at H ⊢
  split at H
  · exact ⟨H.1, hP _ H.2⟩
  · exact H.elim
theorem zo_goto_mo {E : Nat → List Value → zH → (zR → zH → Prop) → Prop} {M : zM} {Q Q' : zR → zH → Prop} {P P' : zF → Prop} {pc len r1 r2 r3 : Nat} {ts : List Nat} {lv : List (Nat × Value)} {st : List Value} {h : zH} (hE : zMo E) (hQ : ∀ r h, Q r h → Q' r h) (hP : ∀ f, P f → P' f) (H : zo_goto E M Q P pc len r1 r2 r3 ts lv st h) : zo_goto E M Q' P' pc len r1 r2 r3 ts lv st h := by
  exact hP _ H
theorem zo_ifeq_mo {E : Nat → List Value → zH → (zR → zH → Prop) → Prop} {M : zM} {Q Q' : zR → zH → Prop} {P P' : zF → Prop} {pc len r1 r2 r3 : Nat} {ts : List Nat} {lv : List (Nat × Value)} {st : List Value} {h : zH} (hE : zMo E) (hQ : ∀ r h, Q r h → Q' r h) (hP : ∀ f, P f → P' f) (H : zo_ifeq E M Q P pc len r1 r2 r3 ts lv st h) : zo_ifeq E M Q' P' pc len r1 r2 r3 ts lv st h := by
  unfold zo_ifeq at H ⊢
  split at H
  · exact zbr_mo H (hP _) (hP _)
  · exact H.elim
theorem zo_ifne_mo {E : Nat → List Value → zH → (zR → zH → Prop) → Prop} {M : zM} {Q Q' : zR → zH → Prop} {P P' : zF → Prop} {pc len r1 r2 r3 : Nat} {ts : List Nat} {lv : List (Nat × Value)} {st : List Value} {h : zH} (hE : zMo E) (hQ : ∀ r h, Q r h → Q' r h) (hP : ∀ f, P f → P' f) (H : zo_ifne E M Q P pc len r1 r2 r3 ts lv st h) : zo_ifne E M Q' P' pc len r1 r2 r3 ts lv st h := by
  unfold zo_ifne at H ⊢
  split at H
  · exact zbr_mo H (hP _) (hP _)
  · exact H.elim
theorem zo_iflt_mo {E : Nat → List Value → zH → (zR → zH → Prop) → Prop} {M : zM} {Q Q' : zR → zH → Prop} {P P' : zF → Prop} {pc len r1 r2 r3 : Nat} {ts : List Nat} {lv : List (Nat × Value)} {st : List Value} {h : zH} (hE : zMo E) (hQ : ∀ r h, Q r h → Q' r h) (hP : ∀ f, P f → P' f) (H : zo_iflt E M Q P pc len r1 r2 r3 ts lv st h) : zo_iflt E M Q' P' pc len r1 r2 r3 ts lv st h := by
  unfold zo_iflt at H ⊢
  split at H
  · exact zbr_mo H (hP _) (hP _)
  · exact H.elim
theorem zo_ifge_mo {E : Nat → List Value → zH → (zR → zH → Prop) → Prop} {M : zM} {Q Q' : zR → zH → Prop} {P P' : zF → Prop} {pc len r1 r2 r3 : Nat} {ts : List Nat} {lv : List (Nat × Value)} {st : List Value} {h : zH} (hE : zMo E) (hQ : ∀ r h, Q r h → Q' r h) (hP : ∀ f, P f → P' f) (H : zo_ifge E M Q P pc len r1 r2 r3 ts lv st h) : zo_ifge E M Q' P' pc len r1 r2 r3 ts lv st h := by
  unfold zo_ifge at H ⊢
  split at H
  · exact zbr_mo H (hP _) (hP _)
  · exact H.elim
theorem zo_ifgt_mo {E : Nat → List Value → zH → (zR → zH → Prop) → Prop} {M : zM} {Q Q' : zR → zH → Prop} {P P' : zF → Prop} {pc len r1 r2 r3 : Nat} {ts : List Nat} {lv : List (Nat × Value)} {st : List Value} {h : zH} (hE : zMo E) (hQ : ∀ r h, Q r h → Q' r h) (hP : ∀ f, P f → P' f) (H : zo_ifgt E M Q P pc len r1 r2 r3 ts lv st h) : zo_ifgt E M Q' P' pc len r1 r2 r3 ts lv st h := by
  unfold zo_ifgt at H ⊢
  split at H
  · exact zbr_mo H (hP _) (hP _)
  · exact H.elim
theorem zo_ifle_mo {E : Nat → List Value → zH → (zR → zH → Prop) → Prop} {M : zM} {Q Q' : zR → zH → Prop} {P P' : zF → Prop} {pc len r1 r2 r3 : Nat} {ts : List Nat} {lv : List (Nat × Value)} {st : List Value} {h : zH} (hE : zMo E) (hQ : ∀ r h, Q r h → Q' r h) (hP : ∀ f, P f → P' f) (H : zo_ifle E M Q P pc len r1 r2 r3 ts lv st h) : zo_ifle E M Q' P' pc len r1 r2 r3 ts lv st h := by
  unfold zo_ifle at H ⊢
  split at H
  · exact zbr_mo H (hP _) (hP _)
  · exact H.elim
theorem zo_iceq_mo {E : Nat → List Value → zH → (zR → zH → Prop) → Prop} {M : zM} {Q Q' : zR → zH → Prop} {P P' : zF → Prop} {pc len r1 r2 r3 : Nat} {ts : List Nat} {lv : List (Nat × Value)} {st : List Value} {h : zH} (hE : zMo E) (hQ : ∀ r h, Q r h → Q' r h) (hP : ∀ f, P f → P' f) (H : zo_iceq E M Q P pc len r1 r2 r3 ts lv st h) : zo_iceq E M Q' P' pc len r1 r2 r3 ts lv st h := by
  unfold zo_iceq at H ⊢
  split at H
  · exact zbr_mo H (hP _) (hP _)
  · exact H.elim
theorem zo_icne_mo {E : Nat → List Value → zH → (zR → zH → Prop) → Prop} {M : zM} {Q Q' : zR → zH → Prop} {P P' : zF → Prop} {pc len r1 r2 r3 : Nat} {ts : List Nat} {lv : List (Nat × Value)} {st : List Value} {h : zH} (hE : zMo E) (hQ : ∀ r h, Q r h → Q' r h) (hP : ∀ f, P f → P' f) (H : zo_icne E M Q P pc len r1 r2 r3 ts lv st h) : zo_icne E M Q' P' pc len r1 r2 r3 ts lv st h := by
  unfold zo_icne at H ⊢
  split at H
  · exact zbr_mo H (hP _) (hP _)
  · exact H.elim
theorem zo_iclt_mo {E : Nat → List Value → zH → (zR → zH → Prop) → Prop} {M : zM} {Q Q' : zR → zH → Prop} {P P' : zF → Prop} {pc len r1 r2 r3 : Nat} {ts : List Nat} {lv : List (Nat × Value)} {st : List Value} {h : zH} (hE : zMo E) (hQ : ∀ r h, Q r h → Q' r h) (hP : ∀ f, P f → P' f) (H : zo_iclt E M Q P pc len r1 r2 r3 ts lv st h) : zo_iclt E M Q' P' pc len r1 r2 r3 ts lv st h := by
  unfold zo_iclt at H ⊢
  split at H
  · exact zbr_mo H (hP _) (hP _)
  · exact H.elim
theorem zo_icge_mo {E : Nat → List Value → zH → (zR → zH → Prop) → Prop} {M : zM} {Q Q' : zR → zH → Prop} {P P' : zF → Prop} {pc len r1 r2 r3 : Nat} {ts : List Nat} {lv : List (Nat × Value)} {st : List Value} {h : zH} (hE : zMo E) (hQ : ∀ r h, Q r h → Q' r h) (hP : ∀ f, P f → P' f) (H : zo_icge E M Q P pc len r1 r2 r3 ts lv st h) : zo_icge E M Q' P' pc len r1 r2 r3 ts lv st h := by
  unfold zo_icge at H ⊢
  split at H
  · exact zbr_mo H (hP _) (hP _)
  · exact H.elim
theorem zo_icgt_mo {E : Nat → List Value → zH → (zR → zH → Prop) → Prop} {M : zM} {Q Q' : zR → zH → Prop} {P P' : zF → Prop} {pc len r1 r2 r3 : Nat} {ts : List Nat} {lv : List (Nat × Value)} {st : List Value} {h : zH} (hE : zMo E) (hQ : ∀ r h, Q r h → Q' r h) (hP : ∀ f, P f → P' f) (H : zo_icgt E M Q P pc len r1 r2 r3 ts lv st h) : zo_icgt E M Q' P' pc len r1 r2 r3 ts lv st h := by
  unfold zo_icgt at H ⊢
  split at H
  · exact zbr_mo H (hP _) (hP _)
  · exact H.elim
theorem zo_icle_mo {E : Nat → List Value → zH → (zR → zH → Prop) → Prop} {M : zM} {Q Q' : zR → zH → Prop} {P P' : zF → Prop} {pc len r1 r2 r3 : Nat} {ts : List Nat} {lv : List (Nat × Value)} {st : List Value} {h : zH} (hE : zMo E) (hQ : ∀ r h, Q r h → Q' r h) (hP : ∀ f, P f → P' f) (H : zo_icle E M Q P pc len r1 r2 r3 ts lv st h) : zo_icle E M Q' P' pc len r1 r2 r3 ts lv st h := by
  unfold zo_icle at H ⊢
  split at H
  · exact zbr_mo H (hP _) (hP _)
  · exact H.elim
theorem zo_switch_mo {E : Nat → List Value → zH → (zR → zH → Prop) → Prop} {M : zM} {Q Q' : zR → zH → Prop} {P P' : zF → Prop} {pc len r1 r2 r3 : Nat} {ts : List Nat} {lv : List (Nat × Value)} {st : List Value} {h : zH} (hE : zMo E) (hQ : ∀ r h, Q r h → Q' r h) (hP : ∀ f, P f → P' f) (H : zo_switch E M Q P pc len r1 r2 r3 ts lv st h) : zo_switch E M Q' P' pc len r1 r2 r3 ts lv st h := by
  unfold zo_switch at H ⊢
  split at H
  · split at H
    · exact zsw_mo (fun t => hP _) _ _ _ H
    · exact zswn_mo (fun t => hP _) _ _ _ H
  · exact H.elim
theorem zo_getI_mo {E : Nat → List Value → zH → (zR → zH → Prop) → Prop} {M : zM} {Q Q' : zR → zH → Prop} {P P' : zF → Prop} {pc len r1 r2 r3 : Nat} {ts : List Nat} {lv : List (Nat × Value)} {st : List Value} {h : zH} (hE : zMo E) (hQ : ∀ r h, Q r h → Q' r h) (hP : ∀ f, P f → P' f) (H : zo_getI E M Q P pc len r1 r2 r3 ts lv st h) : zo_getI E M Q' P' pc len r1 r2 r3 ts lv st h := by
  unfold zo_getI at H ⊢
  split at H
  · obtain ⟨x, e, H⟩ := H; exact ⟨x, e, hP _ H⟩
  · exact H.elim
theorem zo_getJ_mo {E : Nat → List Value → zH → (zR → zH → Prop) → Prop} {M : zM} {Q Q' : zR → zH → Prop} {P P' : zF → Prop} {pc len r1 r2 r3 : Nat} {ts : List Nat} {lv : List (Nat × Value)} {st : List Value} {h : zH} (hE : zMo E) (hQ : ∀ r h, Q r h → Q' r h) (hP : ∀ f, P f → P' f) (H : zo_getJ E M Q P pc len r1 r2 r3 ts lv st h) : zo_getJ E M Q' P' pc len r1 r2 r3 ts lv st h := by
  unfold zo_getJ at H ⊢
  split at H
  · obtain ⟨x, e, H⟩ := H; exact ⟨x, e, hP _ H⟩
  · exact H.elim
theorem zo_getR_mo {E : Nat → List Value → zH → (zR → zH → Prop) → Prop} {M : zM} {Q Q' : zR → zH → Prop} {P P' : zF → Prop} {pc len r1 r2 r3 : Nat} {ts : List Nat} {lv : List (Nat × Value)} {st : List Value} {h : zH} (hE : zMo E) (hQ : ∀ r h, Q r h → Q' r h) (hP : ∀ f, P f → P' f) (H : zo_getR E M Q P pc len r1 r2 r3 ts lv st h) : zo_getR E M Q' P' pc len r1 r2 r3 ts lv st h := by
  unfold zo_getR at H ⊢
  split at H
  · obtain ⟨x, e, H⟩ := H; exact ⟨x, e, hP _ H⟩
  · exact H.elim
theorem zo_put_mo {E : Nat → List Value → zH → (zR → zH → Prop) → Prop} {M : zM} {Q Q' : zR → zH → Prop} {P P' : zF → Prop} {pc len r1 r2 r3 : Nat} {ts : List Nat} {lv : List (Nat × Value)} {st : List Value} {h : zH} (hE : zMo E) (hQ : ∀ r h, Q r h → Q' r h) (hP : ∀ f, P f → P' f) (H : zo_put E M Q P pc len r1 r2 r3 ts lv st h) : zo_put E M Q' P' pc len r1 r2 r3 ts lv st h := by
  unfold zo_put at H ⊢
  split at H
  · obtain ⟨e0, x, e, H⟩ := H; exact ⟨e0, x, e, hP _ H⟩
  · exact H.elim
theorem zo_alen_mo {E : Nat → List Value → zH → (zR → zH → Prop) → Prop} {M : zM} {Q Q' : zR → zH → Prop} {P P' : zF → Prop} {pc len r1 r2 r3 : Nat} {ts : List Nat} {lv : List (Nat × Value)} {st : List Value} {h : zH} (hE : zMo E) (hQ : ∀ r h, Q r h → Q' r h) (hP : ∀ f, P f → P' f) (H : zo_alen E M Q P pc len r1 r2 r3 ts lv st h) : zo_alen E M Q' P' pc len r1 r2 r3 ts lv st h := by
  unfold zo_alen at H ⊢
  split at H
  · obtain ⟨x, e, H⟩ := H; exact ⟨x, e, hP _ H⟩
  · exact H.elim
theorem zo_iald_mo {E : Nat → List Value → zH → (zR → zH → Prop) → Prop} {M : zM} {Q Q' : zR → zH → Prop} {P P' : zF → Prop} {pc len r1 r2 r3 : Nat} {ts : List Nat} {lv : List (Nat × Value)} {st : List Value} {h : zH} (hE : zMo E) (hQ : ∀ r h, Q r h → Q' r h) (hP : ∀ f, P f → P' f) (H : zo_iald E M Q P pc len r1 r2 r3 ts lv st h) : zo_iald E M Q' P' pc len r1 r2 r3 ts lv st h := by
  unfold zo_iald at H ⊢
  split at H
  · obtain ⟨x, e, H⟩ := H; exact ⟨x, e, hP _ H⟩
  · exact H.elim
theorem zo_bald_mo {E : Nat → List Value → zH → (zR → zH → Prop) → Prop} {M : zM} {Q Q' : zR → zH → Prop} {P P' : zF → Prop} {pc len r1 r2 r3 : Nat} {ts : List Nat} {lv : List (Nat × Value)} {st : List Value} {h : zH} (hE : zMo E) (hQ : ∀ r h, Q r h → Q' r h) (hP : ∀ f, P f → P' f) (H : zo_bald E M Q P pc len r1 r2 r3 ts lv st h) : zo_bald E M Q' P' pc len r1 r2 r3 ts lv st h := by
  unfold zo_bald at H ⊢
  split at H
  · obtain ⟨x, e, H⟩ := H; exact ⟨x, e, hP _ H⟩
  · exact H.elim
theorem zo_lald_mo {E : Nat → List Value → zH → (zR → zH → Prop) → Prop} {M : zM} {Q Q' : zR → zH → Prop} {P P' : zF → Prop} {pc len r1 r2 r3 : Nat} {ts : List Nat} {lv : List (Nat × Value)} {st : List Value} {h : zH} (hE : zMo E) (hQ : ∀ r h, Q r h → Q' r h) (hP : ∀ f, P f → P' f) (H : zo_lald E M Q P pc len r1 r2 r3 ts lv st h) : zo_lald E M Q' P' pc len r1 r2 r3 ts lv st h := by
  unfold zo_lald at H ⊢
  split at H
  · obtain ⟨x, e, H⟩ := H; exact ⟨x, e, hP _ H⟩
  · exact H.elim
theorem zo_aald_mo {E : Nat → List Value → zH → (zR → zH → Prop) → Prop} {M : zM} {Q Q' : zR → zH → Prop} {P P' : zF → Prop} {pc len r1 r2 r3 : Nat} {ts : List Nat} {lv : List (Nat × Value)} {st : List Value} {h : zH} (hE : zMo E) (hQ : ∀ r h, Q r h → Q' r h) (hP : ∀ f, P f → P' f) (H : zo_aald E M Q P pc len r1 r2 r3 ts lv st h) : zo_aald E M Q' P' pc len r1 r2 r3 ts lv st h := by
  unfold zo_aald at H ⊢
  split at H
  · obtain ⟨x, e, H⟩ := H; exact ⟨x, e, hP _ H⟩
  · exact H.elim
theorem zo_iast_mo {E : Nat → List Value → zH → (zR → zH → Prop) → Prop} {M : zM} {Q Q' : zR → zH → Prop} {P P' : zF → Prop} {pc len r1 r2 r3 : Nat} {ts : List Nat} {lv : List (Nat × Value)} {st : List Value} {h : zH} (hE : zMo E) (hQ : ∀ r h, Q r h → Q' r h) (hP : ∀ f, P f → P' f) (H : zo_iast E M Q P pc len r1 r2 r3 ts lv st h) : zo_iast E M Q' P' pc len r1 r2 r3 ts lv st h := by
  unfold zo_iast at H ⊢
  split at H
  · obtain ⟨x, e, H⟩ := H; exact ⟨x, e, hP _ H⟩
  · exact H.elim
theorem zo_bast_mo {E : Nat → List Value → zH → (zR → zH → Prop) → Prop} {M : zM} {Q Q' : zR → zH → Prop} {P P' : zF → Prop} {pc len r1 r2 r3 : Nat} {ts : List Nat} {lv : List (Nat × Value)} {st : List Value} {h : zH} (hE : zMo E) (hQ : ∀ r h, Q r h → Q' r h) (hP : ∀ f, P f → P' f) (H : zo_bast E M Q P pc len r1 r2 r3 ts lv st h) : zo_bast E M Q' P' pc len r1 r2 r3 ts lv st h := by
  unfold zo_bast at H ⊢
  split at H
  · obtain ⟨x, e, H⟩ := H; exact ⟨x, e, hP _ H⟩
  · exact H.elim
theorem zo_last_mo {E : Nat → List Value → zH → (zR → zH → Prop) → Prop} {M : zM} {Q Q' : zR → zH → Prop} {P P' : zF → Prop} {pc len r1 r2 r3 : Nat} {ts : List Nat} {lv : List (Nat × Value)} {st : List Value} {h : zH} (hE : zMo E) (hQ : ∀ r h, Q r h → Q' r h) (hP : ∀ f, P f → P' f) (H : zo_last E M Q P pc len r1 r2 r3 ts lv st h) : zo_last E M Q' P' pc len r1 r2 r3 ts lv st h := by
  unfold zo_last at H ⊢
  split at H
  · obtain ⟨x, e, H⟩ := H; exact ⟨x, e, hP _ H⟩
  · exact H.elim
theorem zo_aast_mo {E : Nat → List Value → zH → (zR → zH → Prop) → Prop} {M : zM} {Q Q' : zR → zH → Prop} {P P' : zF → Prop} {pc len r1 r2 r3 : Nat} {ts : List Nat} {lv : List (Nat × Value)} {st : List Value} {h : zH} (hE : zMo E) (hQ : ∀ r h, Q r h → Q' r h) (hP : ∀ f, P f → P' f) (H : zo_aast E M Q P pc len r1 r2 r3 ts lv st h) : zo_aast E M Q' P' pc len r1 r2 r3 ts lv st h := by
  unfold zo_aast at H ⊢
  split at H
  · obtain ⟨x, e, H⟩ := H; exact ⟨x, e, hP _ H⟩
  · exact H.elim
theorem zo_new_mo {E : Nat → List Value → zH → (zR → zH → Prop) → Prop} {M : zM} {Q Q' : zR → zH → Prop} {P P' : zF → Prop} {pc len r1 r2 r3 : Nat} {ts : List Nat} {lv : List (Nat × Value)} {st : List Value} {h : zH} (hE : zMo E) (hQ : ∀ r h, Q r h → Q' r h) (hP : ∀ f, P f → P' f) (H : zo_new E M Q P pc len r1 r2 r3 ts lv st h) : zo_new E M Q' P' pc len r1 r2 r3 ts lv st h := by
  obtain ⟨x, e, H⟩ := H; exact ⟨x, e, hP _ H⟩
theorem zo_throw_mo {E : Nat → List Value → zH → (zR → zH → Prop) → Prop} {M : zM} {Q Q' : zR → zH → Prop} {P P' : zF → Prop} {pc len r1 r2 r3 : Nat} {ts : List Nat} {lv : List (Nat × Value)} {st : List Value} {h : zH} (hE : zMo E) (hQ : ∀ r h, Q r h → Q' r h) (hP : ∀ f, P f → P' f) (H : zo_throw E M Q P pc len r1 r2 r3 ts lv st h) : zo_throw E M Q' P' pc len r1 r2 r3 ts lv st h := by
  obtain ⟨e0, x, e, H⟩ := H; exact ⟨e0, x, e, hQ _ _ H⟩
theorem zo_newa_mo {E : Nat → List Value → zH → (zR → zH → Prop) → Prop} {M : zM} {Q Q' : zR → zH → Prop} {P P' : zF → Prop} {pc len r1 r2 r3 : Nat} {ts : List Nat} {lv : List (Nat × Value)} {st : List Value} {h : zH} (hE : zMo E) (hQ : ∀ r h, Q r h → Q' r h) (hP : ∀ f, P f → P' f) (H : zo_newa E M Q P pc len r1 r2 r3 ts lv st h) : zo_newa E M Q' P' pc len r1 r2 r3 ts lv st h := by
  unfold zo_newa at H ⊢
  split at H
  · obtain ⟨x, e, H⟩ := H; exact ⟨x, e, hP _ H⟩
  · exact H.elim
theorem zo_call_mo {E : Nat → List Value → zH → (zR → zH → Prop) → Prop} {M : zM} {Q Q' : zR → zH → Prop} {P P' : zF → Prop} {pc len r1 r2 r3 : Nat} {ts : List Nat} {lv : List (Nat × Value)} {st : List Value} {h : zH} (hE : zMo E) (hQ : ∀ r h, Q r h → Q' r h) (hP : ∀ f, P f → P' f) (H : zo_call E M Q P pc len r1 r2 r3 ts lv st h) : zo_call E M Q' P' pc len r1 r2 r3 ts lv st h := by
  unfold zo_call at H ⊢
  split at H
  · refine And.intro H.1 (hE _ _ _ _ _ H.2 (fun r h k => ?_))
    cases r with
    | inl v => exact zrt_mo k (fun vs => hP _)
    | inr x => exact zX_mo hQ (fun f => hP _) _ k
  · exact H.elim
theorem zo_nop_mo {E : Nat → List Value → zH → (zR → zH → Prop) → Prop} {M : zM} {Q Q' : zR → zH → Prop} {P P' : zF → Prop} {pc len r1 r2 r3 : Nat} {ts : List Nat} {lv : List (Nat × Value)} {st : List Value} {h : zH} (hE : zMo E) (hQ : ∀ r h, Q r h → Q' r h) (hP : ∀ f, P f → P' f) (H : zo_nop E M Q P pc len r1 r2 r3 ts lv st h) : zo_nop E M Q' P' pc len r1 r2 r3 ts lv st h := by
  unfold zo_nop at H ⊢
  split at H
  · exact ⟨H.1, H.2.1, hP _ H.2.2⟩
  · exact H.elim
theorem zo_cpi_mo {E : Nat → List Value → zH → (zR → zH → Prop) → Prop} {M : zM} {Q Q' : zR → zH → Prop} {P P' : zF → Prop} {pc len r1 r2 r3 : Nat} {ts : List Nat} {lv : List (Nat × Value)} {st : List Value} {h : zH} (hE : zMo E) (hQ : ∀ r h, Q r h → Q' r h) (hP : ∀ f, P f → P' f) (H : zo_cpi E M Q P pc len r1 r2 r3 ts lv st h) : zo_cpi E M Q' P' pc len r1 r2 r3 ts lv st h := by
  unfold zo_cpi at H ⊢
  split at H
  · obtain ⟨e0, x, e, H⟩ := H; exact ⟨e0, x, e, hP _ H⟩
  · exact H.elim
theorem zo_cpj_mo {E : Nat → List Value → zH → (zR → zH → Prop) → Prop} {M : zM} {Q Q' : zR → zH → Prop} {P P' : zF → Prop} {pc len r1 r2 r3 : Nat} {ts : List Nat} {lv : List (Nat × Value)} {st : List Value} {h : zH} (hE : zMo E) (hQ : ∀ r h, Q r h → Q' r h) (hP : ∀ f, P f → P' f) (H : zo_cpj E M Q P pc len r1 r2 r3 ts lv st h) : zo_cpj E M Q' P' pc len r1 r2 r3 ts lv st h := by
  unfold zo_cpj at H ⊢
  split at H
  · obtain ⟨e0, x, e, H⟩ := H; exact ⟨e0, x, e, hP _ H⟩
  · exact H.elim
theorem zo_iret_mo {E : Nat → List Value → zH → (zR → zH → Prop) → Prop} {M : zM} {Q Q' : zR → zH → Prop} {P P' : zF → Prop} {pc len r1 r2 r3 : Nat} {ts : List Nat} {lv : List (Nat × Value)} {st : List Value} {h : zH} (hE : zMo E) (hQ : ∀ r h, Q r h → Q' r h) (hP : ∀ f, P f → P' f) (H : zo_iret E M Q P pc len r1 r2 r3 ts lv st h) : zo_iret E M Q' P' pc len r1 r2 r3 ts lv st h := by
  unfold zo_iret at H ⊢
  split at H
  · exact ⟨H.1, hQ _ _ H.2⟩
  · exact H.elim
theorem zo_lret_mo {E : Nat → List Value → zH → (zR → zH → Prop) → Prop} {M : zM} {Q Q' : zR → zH → Prop} {P P' : zF → Prop} {pc len r1 r2 r3 : Nat} {ts : List Nat} {lv : List (Nat × Value)} {st : List Value} {h : zH} (hE : zMo E) (hQ : ∀ r h, Q r h → Q' r h) (hP : ∀ f, P f → P' f) (H : zo_lret E M Q P pc len r1 r2 r3 ts lv st h) : zo_lret E M Q' P' pc len r1 r2 r3 ts lv st h := by
  unfold zo_lret at H ⊢
  split at H
  · exact hQ _ _ H
  · exact H.elim
theorem zo_aret_mo {E : Nat → List Value → zH → (zR → zH → Prop) → Prop} {M : zM} {Q Q' : zR → zH → Prop} {P P' : zF → Prop} {pc len r1 r2 r3 : Nat} {ts : List Nat} {lv : List (Nat × Value)} {st : List Value} {h : zH} (hE : zMo E) (hQ : ∀ r h, Q r h → Q' r h) (hP : ∀ f, P f → P' f) (H : zo_aret E M Q P pc len r1 r2 r3 ts lv st h) : zo_aret E M Q' P' pc len r1 r2 r3 ts lv st h := by
  unfold zo_aret at H ⊢
  split at H
  · exact hQ _ _ H
  · exact H.elim
theorem zo_vret_mo {E : Nat → List Value → zH → (zR → zH → Prop) → Prop} {M : zM} {Q Q' : zR → zH → Prop} {P P' : zF → Prop} {pc len r1 r2 r3 : Nat} {ts : List Nat} {lv : List (Nat × Value)} {st : List Value} {h : zH} (hE : zMo E) (hQ : ∀ r h, Q r h → Q' r h) (hP : ∀ f, P f → P' f) (H : zo_vret E M Q P pc len r1 r2 r3 ts lv st h) : zo_vret E M Q' P' pc len r1 r2 r3 ts lv st h := by
  unfold zo_vret at H ⊢
  split at H
  · exact hQ _ _ H
  · exact H.elim
theorem zo_opush_mo {E : Nat → List Value → zH → (zR → zH → Prop) → Prop} {M : zM} {Q Q' : zR → zH → Prop} {P P' : zF → Prop} {pc len r1 r2 r3 : Nat} {ts : List Nat} {lv : List (Nat × Value)} {st : List Value} {h : zH} (hE : zMo E) (hQ : ∀ r h, Q r h → Q' r h) (hP : ∀ f, P f → P' f) (H : zo_opush E M Q P pc len r1 r2 r3 ts lv st h) : zo_opush E M Q' P' pc len r1 r2 r3 ts lv st h := by
  exact hP _ H
theorem zcond_mo {b : Bool} {a c a' c' : Prop} (h : cond b a c) (h1 : a → a') (h2 : c → c') : cond b a' c' := by cases b <;> first | exact h2 h | exact h1 h
theorem zd0_mo (op : Nat) {E : Nat → List Value → zH → (zR → zH → Prop) → Prop} {M : zM} {Q Q' : zR → zH → Prop} {P P' : zF → Prop} {pc len r1 r2 r3 : Nat} {ts : List Nat} {lv : List (Nat × Value)} {st : List Value} {h : zH} (hE : zMo E) (hQ : ∀ r h, Q r h → Q' r h) (hP : ∀ f, P f → P' f) : zd0 op E M Q P pc len r1 r2 r3 ts lv st h → zd0 op E M Q' P' pc len r1 r2 r3 ts lv st h := (fun H => zcond_mo H (fun H => zcond_mo H (fun H => zcond_mo H (zo_ipush_mo hE hQ hP) (zo_ipushn_mo hE hQ hP)) (fun H => zcond_mo H (zo_lpush_mo hE hQ hP) (zo_lpushn_mo hE hQ hP))) (fun H => zcond_mo H (fun H => zcond_mo H (zo_rpush_mo hE hQ hP) (zo_iload_mo hE hQ hP)) (fun H => zcond_mo H (zo_lload_mo hE hQ hP) (zo_aload_mo hE hQ hP))))
theorem zd1_mo (op : Nat) {E : Nat → List Value → zH → (zR → zH → Prop) → Prop} {M : zM} {Q Q' : zR → zH → Prop} {P P' : zF → Prop} {pc len r1 r2 r3 : Nat} {ts : List Nat} {lv : List (Nat × Value)} {st : List Value} {h : zH} (hE : zMo E) (hQ : ∀ r h, Q r h → Q' r h) (hP : ∀ f, P f → P' f) : zd1 op E M Q P pc len r1 r2 r3 ts lv st h → zd1 op E M Q' P' pc len r1 r2 r3 ts lv st h := (fun H => zcond_mo H (fun H => zcond_mo H (fun H => zcond_mo H (zo_istore_mo hE hQ hP) (zo_astore_mo hE hQ hP)) (fun H => zcond_mo H (zo_lstore_mo hE hQ hP) (zo_iinc_mo hE hQ hP))) (fun H => zcond_mo H (fun H => zcond_mo H (zo_iincn_mo hE hQ hP) (zo_iadd_mo hE hQ hP)) (fun H => zcond_mo H (zo_isub_mo hE hQ hP) (zo_imul_mo hE hQ hP))))
theorem zd2_mo (op : Nat) {E : Nat → List Value → zH → (zR → zH → Prop) → Prop} {M : zM} {Q Q' : zR → zH → Prop} {P P' : zF → Prop} {pc len r1 r2 r3 : Nat} {ts : List Nat} {lv : List (Nat × Value)} {st : List Value} {h : zH} (hE : zMo E) (hQ : ∀ r h, Q r h → Q' r h) (hP : ∀ f, P f → P' f) : zd2 op E M Q P pc len r1 r2 r3 ts lv st h → zd2 op E M Q' P' pc len r1 r2 r3 ts lv st h := (fun H => zcond_mo H (fun H => zcond_mo H (fun H => zcond_mo H (zo_iand_mo hE hQ hP) (zo_ior_mo hE hQ hP)) (fun H => zcond_mo H (zo_ixor_mo hE hQ hP) (zo_ishl_mo hE hQ hP))) (fun H => zcond_mo H (fun H => zcond_mo H (zo_ishr_mo hE hQ hP) (zo_iushr_mo hE hQ hP)) (fun H => zcond_mo H (zo_idiv_mo hE hQ hP) (zo_irem_mo hE hQ hP))))
theorem zd3_mo (op : Nat) {E : Nat → List Value → zH → (zR → zH → Prop) → Prop} {M : zM} {Q Q' : zR → zH → Prop} {P P' : zF → Prop} {pc len r1 r2 r3 : Nat} {ts : List Nat} {lv : List (Nat × Value)} {st : List Value} {h : zH} (hE : zMo E) (hQ : ∀ r h, Q r h → Q' r h) (hP : ∀ f, P f → P' f) : zd3 op E M Q P pc len r1 r2 r3 ts lv st h → zd3 op E M Q' P' pc len r1 r2 r3 ts lv st h := (fun H => zcond_mo H (fun H => zcond_mo H (fun H => zcond_mo H (zo_land_mo hE hQ hP) (zo_lor_mo hE hQ hP)) (fun H => zcond_mo H (zo_lxor_mo hE hQ hP) (zo_lshl_mo hE hQ hP))) (fun H => zcond_mo H (fun H => zcond_mo H (zo_lushr_mo hE hQ hP) (zo_lcmp_mo hE hQ hP)) (fun H => zcond_mo H (zo_i2l_mo hE hQ hP) (zo_i2b_mo hE hQ hP))))
theorem zd4_mo (op : Nat) {E : Nat → List Value → zH → (zR → zH → Prop) → Prop} {M : zM} {Q Q' : zR → zH → Prop} {P P' : zF → Prop} {pc len r1 r2 r3 : Nat} {ts : List Nat} {lv : List (Nat × Value)} {st : List Value} {h : zH} (hE : zMo E) (hQ : ∀ r h, Q r h → Q' r h) (hP : ∀ f, P f → P' f) : zd4 op E M Q P pc len r1 r2 r3 ts lv st h → zd4 op E M Q' P' pc len r1 r2 r3 ts lv st h := (fun H => zcond_mo H (fun H => zcond_mo H (fun H => zcond_mo H (zo_i2c_mo hE hQ hP) (zo_ineg_mo hE hQ hP)) (fun H => zcond_mo H (zo_l2i_mo hE hQ hP) (zo_dup_mo hE hQ hP))) (fun H => zcond_mo H (fun H => zcond_mo H (zo_dup2_mo hE hQ hP) (zo_pop_mo hE hQ hP)) (fun H => zcond_mo H (zo_goto_mo hE hQ hP) (zo_ifeq_mo hE hQ hP))))
theorem zd5_mo (op : Nat) {E : Nat → List Value → zH → (zR → zH → Prop) → Prop} {M : zM} {Q Q' : zR → zH → Prop} {P P' : zF → Prop} {pc len r1 r2 r3 : Nat} {ts : List Nat} {lv : List (Nat × Value)} {st : List Value} {h : zH} (hE : zMo E) (hQ : ∀ r h, Q r h → Q' r h) (hP : ∀ f, P f → P' f) : zd5 op E M Q P pc len r1 r2 r3 ts lv st h → zd5 op E M Q' P' pc len r1 r2 r3 ts lv st h := (fun H => zcond_mo H (fun H => zcond_mo H (fun H => zcond_mo H (zo_ifne_mo hE hQ hP) (zo_iflt_mo hE hQ hP)) (fun H => zcond_mo H (zo_ifge_mo hE hQ hP) (zo_ifgt_mo hE hQ hP))) (fun H => zcond_mo H (fun H => zcond_mo H (zo_ifle_mo hE hQ hP) (zo_iceq_mo hE hQ hP)) (fun H => zcond_mo H (zo_icne_mo hE hQ hP) (zo_iclt_mo hE hQ hP))))
theorem zd6_mo (op : Nat) {E : Nat → List Value → zH → (zR → zH → Prop) → Prop} {M : zM} {Q Q' : zR → zH → Prop} {P P' : zF → Prop} {pc len r1 r2 r3 : Nat} {ts : List Nat} {lv : List (Nat × Value)} {st : List Value} {h : zH} (hE : zMo E) (hQ : ∀ r h, Q r h → Q' r h) (hP : ∀ f, P f → P' f) : zd6 op E M Q P pc len r1 r2 r3 ts lv st h → zd6 op E M Q' P' pc len r1 r2 r3 ts lv st h := (fun H => zcond_mo H (fun H => zcond_mo H (fun H => zcond_mo H (zo_icge_mo hE hQ hP) (zo_icgt_mo hE hQ hP)) (fun H => zcond_mo H (zo_icle_mo hE hQ hP) (zo_switch_mo hE hQ hP))) (fun H => zcond_mo H (fun H => zcond_mo H (zo_getI_mo hE hQ hP) (zo_getJ_mo hE hQ hP)) (fun H => zcond_mo H (zo_getR_mo hE hQ hP) (zo_put_mo hE hQ hP))))
theorem zd7_mo (op : Nat) {E : Nat → List Value → zH → (zR → zH → Prop) → Prop} {M : zM} {Q Q' : zR → zH → Prop} {P P' : zF → Prop} {pc len r1 r2 r3 : Nat} {ts : List Nat} {lv : List (Nat × Value)} {st : List Value} {h : zH} (hE : zMo E) (hQ : ∀ r h, Q r h → Q' r h) (hP : ∀ f, P f → P' f) : zd7 op E M Q P pc len r1 r2 r3 ts lv st h → zd7 op E M Q' P' pc len r1 r2 r3 ts lv st h := (fun H => zcond_mo H (fun H => zcond_mo H (fun H => zcond_mo H (zo_alen_mo hE hQ hP) (zo_iald_mo hE hQ hP)) (fun H => zcond_mo H (zo_bald_mo hE hQ hP) (zo_lald_mo hE hQ hP))) (fun H => zcond_mo H (fun H => zcond_mo H (zo_aald_mo hE hQ hP) (zo_iast_mo hE hQ hP)) (fun H => zcond_mo H (zo_bast_mo hE hQ hP) (zo_last_mo hE hQ hP))))
theorem zd8_mo (op : Nat) {E : Nat → List Value → zH → (zR → zH → Prop) → Prop} {M : zM} {Q Q' : zR → zH → Prop} {P P' : zF → Prop} {pc len r1 r2 r3 : Nat} {ts : List Nat} {lv : List (Nat × Value)} {st : List Value} {h : zH} (hE : zMo E) (hQ : ∀ r h, Q r h → Q' r h) (hP : ∀ f, P f → P' f) : zd8 op E M Q P pc len r1 r2 r3 ts lv st h → zd8 op E M Q' P' pc len r1 r2 r3 ts lv st h := (fun H => zcond_mo H (fun H => zcond_mo H (fun H => zcond_mo H (zo_aast_mo hE hQ hP) (zo_new_mo hE hQ hP)) (fun H => zcond_mo H (zo_throw_mo hE hQ hP) (zo_newa_mo hE hQ hP))) (fun H => zcond_mo H (fun H => zcond_mo H (zo_call_mo hE hQ hP) (zo_nop_mo hE hQ hP)) (fun H => zcond_mo H (zo_cpi_mo hE hQ hP) (zo_cpj_mo hE hQ hP))))
theorem zd9_mo (op : Nat) {E : Nat → List Value → zH → (zR → zH → Prop) → Prop} {M : zM} {Q Q' : zR → zH → Prop} {P P' : zF → Prop} {pc len r1 r2 r3 : Nat} {ts : List Nat} {lv : List (Nat × Value)} {st : List Value} {h : zH} (hE : zMo E) (hQ : ∀ r h, Q r h → Q' r h) (hP : ∀ f, P f → P' f) : zd9 op E M Q P pc len r1 r2 r3 ts lv st h → zd9 op E M Q' P' pc len r1 r2 r3 ts lv st h := (fun H => zcond_mo H (fun H => zcond_mo H (fun H => zcond_mo H (zo_iret_mo hE hQ hP) (zo_lret_mo hE hQ hP)) (fun H => zcond_mo H (zo_aret_mo hE hQ hP) (zo_vret_mo hE hQ hP))) (zo_opush_mo hE hQ hP))
theorem zd_mo (op : Nat) {E : Nat → List Value → zH → (zR → zH → Prop) → Prop} {M : zM} {Q Q' : zR → zH → Prop} {P P' : zF → Prop} {pc len r1 r2 r3 : Nat} {ts : List Nat} {lv : List (Nat × Value)} {st : List Value} {h : zH} (hE : zMo E) (hQ : ∀ r h, Q r h → Q' r h) (hP : ∀ f, P f → P' f) : zd op E M Q P pc len r1 r2 r3 ts lv st h → zd op E M Q' P' pc len r1 r2 r3 ts lv st h := (fun H => zcond_mo H (fun H => zcond_mo H (fun H => zcond_mo H (zd0_mo op hE hQ hP) (zd1_mo op hE hQ hP)) (fun H => zcond_mo H (zd2_mo op hE hQ hP) (fun H => zcond_mo H (zd3_mo op hE hQ hP) (zd4_mo op hE hQ hP)))) (fun H => zcond_mo H (fun H => zcond_mo H (zd5_mo op hE hQ hP) (zd6_mo op hE hQ hP)) (fun H => zcond_mo H (zd7_mo op hE hQ hP) (fun H => zcond_mo H (zd8_mo op hE hQ hP) (zd9_mo op hE hQ hP)))))
theorem zsF_mo {E : Nat → List Value → zH → (zR → zH → Prop) → Prop} {M : zM} {Q Q' : zR → zH → Prop} {P P' : zF → Prop} (hE : zMo E) (hQ : ∀ r h, Q r h → Q' r h) (hP : ∀ f, P f → P' f) (f : zF) (H : zsF E M Q P f) : zsF E M Q' P' f := by
  unfold zsF zs at H ⊢
  split at H
  · exact H.elim
  · exact zd_mo _ hE hQ hP H
theorem zW_ind {E : Nat → List Value → zH → (zR → zH → Prop) → Prop} {M : zM} {Q : zR → zH → Prop} (P : zF → Prop) (hP : ∀ g, zsF E M Q P g → P g) {f : zF} (H : zW E M Q f) : P f := H P hP
theorem zW_in0 {E : Nat → List Value → zH → (zR → zH → Prop) → Prop} {M : zM} {Q : zR → zH → Prop} (hE : zMo E) {f : zF} (H : zsF E M Q (zW E M Q) f) : zW E M Q f := fun P hP => hP f (zsF_mo hE (fun _ _ q => q) (fun g q => q P hP) f H)
theorem zW_mo {E : Nat → List Value → zH → (zR → zH → Prop) → Prop} {M : zM} {Q Q' : zR → zH → Prop} (hE : zMo E) (hQ : ∀ r h, Q r h → Q' r h) {f : zF} (H : zW E M Q f) : zW E M Q' f := fun P hP => H P (fun g q => hP g (zsF_mo hE hQ (fun _ k => k) g q))
