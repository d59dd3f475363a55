theorem zlm_args {G : zG} (hv : G.vS.category = 1) : ∀ (as : List Value) (i : Nat), lv_args i (as.map (zmv G)) = zlm G (lv_args i as)
  | [], _ => rfl
  | v :: as, i => by
    have hc : ((zmv G v).category = 2) = (v.category = 2) := by
      cases v <;> first | rfl | (rw [show (zmv G (.retAddr _)).category = 1 from hv]; rfl)
    show (i, zmv G v) :: lv_args (if (zmv G v).category = 2 then i + 2 else i + 1) (as.map (zmv G)) = (i, zmv G v) :: zlm G (lv_args (if v.category = 2 then i + 2 else i + 1) as)
    rw [zlm_args hv as]
    simp only [hc]
theorem zlg_len {G : zG} (hv : G.vS.category = 1) : ∀ (as : List Value), (lg_sl (as.map (zmv G))).length = zsz as
  | [] => rfl
  | v :: as => by
    have ih := zlg_len hv as
    unfold lg_sl at ih ⊢
    rw [List.map_cons, List.flatMap_cons, List.length_append, ih]
    show _ = (match zc2 v with
      | true => 2
      | false => 1) + zsz as
    congr 1
    cases v <;> first | rfl | (rw [if_neg (by rw [show (zmv G (.retAddr _)).category = 1 from hv]; decide)]; rfl)
/-- the rows of a table, checked, carry a walk of the small machine over to the machine -/
theorem zwalk {G : zG} {l : Launch} {d : Nat} {y : zY} {M : zM} {Q : zR → zH → Prop} {h0 : zH} {f : zF} (ih : ∀ n q as h Q, zYI n = some q → zE d n as h Q → zok n as h ∧ zMet G l d q.1 as h Q) (hck : zCK y M) (hW : zW (zE d) M Q f) : zP G l d y Q h0 f := by
  refine zW_ind (zP G l d y Q h0) (fun g hg => ?_) hW
  obtain ⟨pc, lv, st, h'⟩ := g
  have hg : zs (zE d) M Q (zP G l d y Q h0) pc lv st h' := hg
  unfold zs at hg
  split at hg
  · exact hg.elim
  · rename_i e he
    exact zy ih e.1 (hck pc e he) hg
theorem zsound {G : zG} {l : Launch} : ∀ (d n : Nat) (q : zV) (as : List Value) (h : zH) (Q : zR → zH → Prop), zYI n = some q → zE d n as h Q → zok n as h ∧ zMet G l d q.1 as h Q := by
  intro d
  induction d with
  | zero => intro n q as h Q hq hE; exact hE.elim
  | succ d ih =>
    intro n q as h Q hq hE
    obtain ⟨hok, hW⟩ := hE
    refine ⟨hok, ?_⟩
    obtain ⟨w1, w2, ⟨w3, -⟩, w4, w5, w6, w7⟩ := zYI_ok n q hq
    have hP : zP G l d q.1 Q h (0, zkp ((zMT n).2.2.1 0) (lv_args 0 as), [], h) := zwalk ih (zYI_ck n q hq) hW
    unfold zMet
    refine MetFree.of_bodySF (code := q.1.cc) (maxLocals := q.1.nL) (ret := q.1.rt) w3 ?_ ?_
    · intro args s m hp hn
      obtain ⟨mk, meth, c, g1, g2, g3, g4, g5, g6, g7, g8, g9⟩ := zcw_spec (atoms_spec (ws := zW0) hp _ w1)
      cases hn.symm.trans g1
      exact ⟨meth, c, g2, g3, g4, g5, g7, g8⟩
    · intro p e s m args below meth c s₁ B hml hPre _
      obtain ⟨ha, hrel, hgl⟩ := hPre
      have hts : ∀ w ∈ zW0, w.before args s = true := atoms_spec (ws := zW0) B.pre
      obtain ⟨mk, meth', c', g1, g2, g3, g4, g5, g6, g7, g8, g9⟩ := zcw_spec (hts _ w1)
      cases B.named.symm.trans g1
      cases B.method.symm.trans g2
      have hc : c' = c := by
        have h1 := B.here.code
        rw [B.state, State.code?_eq] at h1
        have h1 : ((s.vm.method? m).bind fun z => z.code) = some c := h1
        rw [B.method] at h1
        exact Option.some.inj (g3.symm.trans h1)
      subst hc
      have hv := hgl.2.2.2.2.2.1
      have hlen : (lg_sl (as.map (zmv G))).length ≤ q.1.nL := by
        rw [zlg_len hv]
        have := Nat.le_of_ble_eq_true hok.1
        rw [w6] at this
        exact this
      have hl := lv_entry (as.map (zmv G)) hlen
      rw [zlm_args hv] at hl
      have hh0 : s₁.heap = s.heap := by rw [B.state]; rfl
      have X : Stand p l e (headSpec zW0 (zroom (d + 1) h)).room s m args below meth c' s₁ [] (h.2.1 - h.2.1) (h.2.2.1 - h.2.2.1) := by
        rw [Nat.sub_self, Nat.sub_self]
        exact Stand.of_body B
      obtain ⟨t, a1, o, b1, b2, b3⟩ := hP p e (headSpec zW0 (zroom (d + 1) h)).room s m args below meth c' s.heap [] _ ⟨B.exec, B.bytes, B.returns, B.notSynchronized, hml, findClass_of_methodNamed B.named, hts, (name_of_methodNamed B.named B.method).1, hgl, hrel, ⟨Nat.le_refl _, Nat.le_refl _, Nat.le_refl _, Nat.le_refl _⟩, g6⟩ (zlm_kp _ hl) hrel (fun z hz => absurd hz List.not_mem_nil) (Nat.le_refl _) (Nat.le_refl _) (Nat.le_refl _) s₁ hh0 X
      refine ⟨t, o, ?_, b1, b2, b3⟩
      rw [ha, lg_entry_eq]
      exact a1
