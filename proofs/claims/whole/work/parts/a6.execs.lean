/-! the executor's step says what the small machine does -/
section
variable {d : Nat} {n : Nat} {xs : Nat → Int32} {Q : zR → zH → Prop} {M : zM} {E : Nat → List Value → xH → Option xH}
def xEo (d n : Nat) (xs : Nat → Int32) (E : Nat → List Value → xH → Option xH) : Prop := ∀ y as H H', E y as H = some H' → ∀ Q : zR → zH → Prop, Q (.inl none) (xh (hsc n xs) H') → zE d y as (xh (hsc n xs) H) Q
theorem xst_ok (hE : xEo d n xs E) {op len r1 r2 r3 pc : Nat} {ts : List Nat} {lv : List (Nat × Value)} {st : List Value} {H : xH} {f' : xF} (ht : M.2.1 pc = some (op, len, r1, r2, r3, ts)) (h : xstp E M op len r1 r2 r3 pc lv st H = some f') (HP : zW (zE d) M Q (xfr (hsc n xs) f')) : zW (zE d) M Q (pc, lv, st, xh (hsc n xs) H) := by
  unfold xstp at h
  split at h
  · cases h; exact zq_ipush_c ht rfl HP
  · cases h; exact zq_ipushn_c ht rfl HP
  · cases h; exact zq_rpush_c ht rfl HP
  · split at h
    · rename_i e; cases h; exact zq_iload_c ht rfl e HP
    · cases h
  · split at h
    · rename_i e; cases h; exact zq_aload_c ht rfl e HP
    · cases h
  · split at h
    · cases h; exact zq_istore_c ht rfl HP
    · cases h
  · split at h
    · cases h; exact zq_astore_c ht rfl HP
    · cases h
  · split at h
    · rename_i e; cases h; exact zq_iinc_c ht rfl e HP
    · cases h
  · split at h
    · cases h; exact zq_dup_c ht rfl rfl HP
    · cases h
  · cases h; exact zq_goto_c ht rfl HP
  · split at h
    · split at h
      · rename_i c; cases h; exact zq_icge_c ht rfl rfl rfl (zbr_t c HP)
      · rename_i c; cases h; exact zq_icge_c ht rfl rfl rfl (zbr_f c HP)
    · cases h
  · split at h
    · split at h
      · rename_i e; cases h; exact zq_getR_c ht rfl (xgr_ok e) HP
      · cases h
    · cases h
  · split at h
    · rename_i v a st
      cases w : xpt r3 v with
      | false => rw [w] at h; cases h
      | true =>
        rw [w] at h
        change (match xpf H a r1 r2 v with
          | some H1 => some (xnx M (pc + len) lv st H1)
          | none => none) = _ at h
        split at h
        · rename_i H1 e
          cases h
          refine zq_put_c ht rfl ?_ (xpf_ok e) HP
          unfold xpt at w
          unfold zpt
          split at w
          · exact trivial
          · exact trivial
          · exact .inl (of_decide_eq_true w)
          · cases w
        · cases h
    · cases h
  · split at h
    · split at h
      · rename_i e; cases h; exact zq_alen_c ht rfl (xal_ok e) HP
      · cases h
    · cases h
  · split at h
    · split at h
      · rename_i e; cases h; exact zq_aast_c ht rfl (xas_ok e) HP
      · cases h
    · cases h
  · split at h
    · rename_i e
      cases h
      refine zq_new_c ht rfl (xnw_ok e) ?_
      show zW (zE d) M Q (_, _, .ref (999 + (H.2.2.length + 1)) :: st, _)
      rw [show 999 + (H.2.2.length + 1) = 1000 + H.2.2.length by omega]
      exact HP
    · cases h
  · split at h
    · rename_i k st
      split at h
      · rename_i e
        cases h
        refine zq_newa_c ht rfl (xna_ok e) ?_
        show zW (zE d) M Q (_, _, .ref (999 + (H.2.2.length + 1)) :: st, _)
        rw [show 999 + (H.2.2.length + 1) = 1000 + H.2.2.length by omega]
        exact HP
      · cases h
    · cases h
  · split at h
    · rename_i as st1 e
      cases w : (Nat.ble (zsz st1) 20 && Nat.beq r3 0) with
      | false => rw [w] at h; cases h
      | true =>
        rw [w] at h
        rw [Bool.and_eq_true] at w
        have w3 := Nat.eq_of_beq_eq_true w.2
        subst w3
        change (match E r1 as H with
          | some H1 => some (xnx M (pc + len) lv st1 H1)
          | none => none) = _ at h
        split at h
        · rename_i H1 e1
          cases h
          refine zW_in ?_
          show zs (zE d) M Q _ pc lv _ _
          unfold zs
          rw [ht]
          show zo_call (zE d) M Q (zW (zE d) M Q) pc len r1 r2 0 ts lv st _
          unfold zo_call
          rw [e]
          exact ⟨w.1, hE r1 as H H1 e1 _ ⟨rfl, HP⟩⟩
        · cases h
    · cases h
  · split at h
    · rename_i a st1 e
      cases w : Nat.ble (zsz st1) 20 with
      | false => rw [w] at h; cases h
      | true =>
        rw [w] at h
        cases h
        exact zq_nop_c ht rfl e w HP
    · cases h
  · cases h
/-- till the stop or a return -/
noncomputable def xrun (E : Nat → List Value → xH → Option xH) (M : zM) (stop : Nat) : Nat → xF → Option xF
  | 0, _ => none
  | m + 1, f => bif Nat.beq f.1 stop then some f else match M.2.1 f.1 with
    | none => none
    | some t => bif Nat.beq t.1 75 then some f else match xstp E M t.1 t.2.1 t.2.2.1 t.2.2.2.1 t.2.2.2.2.1 f.1 f.2.1 f.2.2.1 f.2.2.2 with
      | none => none
      | some f' => xrun E M stop m f'
theorem xrun_ok (hE : xEo d n xs E) {stop : Nat} : ∀ (m : Nat) (f f' : xF), xrun E M stop m f = some f' → zW (zE d) M Q (xfr (hsc n xs) f') → zW (zE d) M Q (xfr (hsc n xs) f)
  | 0, _, _, h, _ => by cases h
  | m + 1, f, f', h, H => by
    unfold xrun at h
    cases w : Nat.beq f.1 stop with
    | true => rw [w] at h; cases h; exact H
    | false =>
      rw [w] at h
      cases e : M.2.1 f.1 with
      | none => rw [e] at h; cases h
      | some t =>
        rw [e] at h
        cases w2 : Nat.beq t.1 75 with
        | true => simp only [cond_false, w2, cond_true] at h; cases h; exact H
        | false =>
          simp only [cond_false, w2] at h
          cases e3 : xstp E M t.1 t.2.1 t.2.2.1 t.2.2.2.1 t.2.2.2.2.1 f.1 f.2.1 f.2.2.1 f.2.2.2 with
          | none => rw [e3] at h; cases h
          | some f1 =>
            rw [e3] at h
            exact xst_ok hE e e3 (xrun_ok hE m f1 f' h H)
def xok (y : Nat) (as : List Value) (H : xH) : Bool := Nat.ble (zsz as) (zYN y).1 && (match as with
  | .ref a :: _ => bif Nat.blt a 1000 then false else (match H.2.2[a - 1000]? with
    | some (.inr (c, _)) => Nat.beq c (zYN y).2
    | _ => false)
  | _ => false)
theorem xok_ok {y : Nat} {as : List Value} {H : xH} (h : xok y as H = true) : zok y as (xh (hsc n xs) H) := by
  unfold xok at h
  rw [Bool.and_eq_true] at h
  refine ⟨h.1, ?_⟩
  have h2 := h.2
  cases Nat.beq (zYN y).2 99 with
  | true => exact trivial
  | false =>
    show zrc _ as _
    split at h2
    · rename_i a l
      cases q : Nat.blt a 1000 with
      | true => rw [q] at h2; cases h2
      | false =>
        rw [q] at h2
        change (match H.2.2[a - 1000]? with
          | some (.inr (c, _)) => Nat.beq c (zYN y).2
          | _ => false) = _ at h2
        split at h2
        · rename_i c fs e
          have := Nat.eq_of_beq_eq_true h2
          subst this
          refine ⟨fs, ?_⟩
          rw [xh_cell q, e]
          rfl
        · cases h2
    · cases h2
noncomputable def xE : Nat → Nat → List Value → xH → Option xH
  | 0, _, _, _ => none
  | d + 1, y, as, H => bif xok y as H then (match xrun (xE d) (zMT y) 100000 400 (0, zkp ((zMT y).2.2.1 0) (lv_args 0 as), [], H) with
    | some f => match (zMT y).2.1 f.1, f.2.2.1 with
      | some t, [] => bif Nat.beq t.1 75 then some f.2.2.2 else none
      | _, _ => none
    | none => none) else none
theorem xE_ok : ∀ d, xEo d n xs (xE d)
  | 0 => fun _ _ _ _ h => by cases h
  | d + 1 => fun y as H H' h Q hQ => by
    unfold xE at h
    cases w : xok y as H with
    | false => rw [w] at h; cases h
    | true =>
      rw [w] at h
      cases e : xrun (xE d) (zMT y) 100000 400 (0, zkp ((zMT y).2.2.1 0) (lv_args 0 as), [], H) with
      | none => rw [e] at h; cases h
      | some f =>
        rw [e] at h
        obtain ⟨pc, lv, st, H2⟩ := f
        cases e2 : (zMT y).2.1 pc with
        | none => simp only [e2, cond_true] at h; cases h
        | some t =>
          cases st with
          | cons v st => simp only [e2, cond_true] at h; cases h
          | nil =>
            simp only [e2, cond_true] at h
            cases w2 : Nat.beq t.1 75 with
            | false => rw [w2] at h; cases h
            | true =>
              rw [w2] at h
              cases h
              obtain ⟨op, len, r1, r2, r3, ts⟩ := t
              have := Nat.eq_of_beq_eq_true w2
              change op = 75 at this
              subst this
              exact ⟨xok_ok w, xrun_ok (xE_ok d) 400 _ _ e (zq_vret e2 hQ)⟩
end
