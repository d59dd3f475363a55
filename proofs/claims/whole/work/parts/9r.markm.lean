/-! signs, words, numbers, steps in the model -/
def wn (pu : Bool) : Nat := if pu = true then 0 else 1
abbrev pF : List Nat := [16, 18, 19, 20, 21, 22, 23]
def mbd (g : hG) (c a : Nat) : Prop := g.1 1046 22 = nI c ∧ ¬ g.1 1046 22 = 0 ∧ g.1 1046 23 = nI a
section
variable {d : Nat} {k : Int32 → hG → hE → Prop} {kv : hG → hE → Prop} {X : Nat → hG → hE → Prop} {g : hG} {e : hE} {T : sT} {t : tok}
theorem cm_wrong (h0 : g.1 1046 22 = 0) {a c : Nat} (h20 : g.1 1046 20 = nI a) (hc : ¬ c = 0) (hc5 : c ≤ 5) (H : ∀ g', fr [] pF g g' → mbd g' c a → kv g' e) : hcv (d + 1) 228 [.ref 1046, .int (nI c)] g e kv X := by
  refine zh_X8_wrong (zbr_t h0 (H _ ((fr.refl.F (by decide)).F (by decide)) ⟨?_, ?_, ?_⟩))
  · rw [sI_at, upd_off _ _ (by omega), sI_at, upd_at]
  · rw [sI_at, upd_off _ _ (by omega), sI_at, upd_at]; exact nI_ne0 (by omega) (by omega)
  · rw [sI_at, upd_at, sI_at, upd_off _ _ (by omega)]; exact h20
theorem cmb_wrong (h0 : ¬ g.1 1046 22 = 0) {c : Int32} (H : kv g e) : hcv (d + 1) 228 [.ref 1046, .int c] g e kv X := zh_X8_wrong (zbr_f h0 H)
theorem cm_is (hm : mps g T t) (hw : wtk T t) {p : Nat} (hp : p < 58 ∧ p % 2 = 0) (H : k (bI (isW T t (htx (p / 2)))) g e) : hci (d + 5) 229 [.ref 1046, .ref p] g e k X := by
  obtain ⟨hx, h18, h20, h21, h16, h19, h22⟩ := hm
  obtain ⟨w1, w2, w3, w4, w5, w6⟩ := hw
  have hT := hx.2.1
  have hl := htx_l (p / 2) (by omega)
  have no : ¬ (t.1 = 1 ∧ t.2.2.1 - t.2.1 = (htx (p / 2)).length ∧ ∀ i, i < (htx (p / 2)).length → T.2 (t.2.1 + i) = (htx (p / 2)).getD i 0) → ∀ i : Int32, hwi (d + 4) zm_X8_is k X 39 [(0, .ref 1046), (1, .ref p), (2, .int 0), (3, .int i)] g e := by
    intro q i
    rw [show isW T t (htx (p / 2)) = false from Bool.eq_false_iff.mpr (fun z => q (isW_t.mp z))] at H
    exact zh_X8_is_39 hp (zbr_t rfl ⟨.inl rfl, H⟩)
  refine zh_X8_is hp (zbr_t h22 ?_)
  rw [h18]
  refine ⟨fun c => j_length hp ?_, fun c => no (fun q => c (by rw [q.1]; rfl)) 0⟩
  have c' : t.1 = 1 := (nI_eq (b := 1) (by omega) (by omega)).mp c
  rw [h20, h21, pk_sub w1]
  refine ⟨fun c2 => ?_, fun c2 => no (fun q => c2 (by rw [q.2.1])) 0⟩
  have c2' : t.2.2.1 - t.2.1 = (htx (p / 2)).length := ((nI_eq (by omega) (by omega)).mp c2).symm
  have : ∀ i, i ≤ (htx (p / 2)).length → (∀ j, j < i → T.2 (t.2.1 + j) = (htx (p / 2)).getD j 0) → hwi (d + 4) zm_X8_is k X 39 [(0, .ref 1046), (1, .ref p), (2, .int 1), (3, .int (nI i))] g e := by
    refine hdown ?_ ?_
    · intro A
      refine zh_X8_is_39 hp (zbr_f (by decide) (j_length hp (zbr_t (nI_le (Nat.le_refl _) (by omega)) ⟨.inr rfl, ?_⟩)))
      rw [isW_t.mpr ⟨c', c2', A⟩] at H
      exact H
    · intro i hi W A
      have hin' : t.2.1 + i < T.1 := by omega
      have hb := hx.2.2 _ hin'
      have hb2 := htx_b2 (p / 2) (by omega) i (by omega)
      refine zh_X8_is_39 hp (zbr_f (by decide) (j_length hp (zbr_f (nI_ge hi (by omega)) (j_charAt hp hi ?_))))
      rw [h20, nI_add, nI_1, nI_clamp (by omega), hb.1]
      refine ⟨nI_in (by omega) (by omega), fun q => W (fun j hj => ?_), fun q => no (fun y => q (by rw [y.2.2 i hi])) _⟩
      by_cases cj : j = i
      · subst cj; exact ((nI_eq (by omega) (by omega)).mp q).symm
      · exact A j (by omega)
  exact this 0 (Nat.zero_le _) (fun j h => absurd h (Nat.not_lt_zero _))
theorem cmb_is (h0 : ¬ g.1 1046 22 = 0) {p : Nat} (hp : p < 58 ∧ p % 2 = 0) (H : k 0 g e) : hci (d + 1) 229 [.ref 1046, .ref p] g e k X :=
  zh_X8_is hp (zbr_f h0 (zh_X8_is_39 hp (zbr_t rfl ⟨.inl rfl, H⟩)))
theorem cm_isMarked (hm : mps g T t) (hw : wtk T t) {c : Nat} (hcc : c < 256) (H : k (bI (isC T t c)) g e) : hci (d + 1) 231 [.ref 1046, .int (nI c)] g e k X := by
  obtain ⟨hx, h18, h20, h21, h16, h19, h22⟩ := hm
  obtain ⟨w1, w2, w3, w4, w5, w6⟩ := hw
  have hT := hx.2.1
  have no : ¬ (t.1 = 3 ∧ T.2 t.2.1 = c) → k 0 g e := by
    intro q
    rw [show isC T t c = false from Bool.eq_false_iff.mpr (fun z => q (isC_t.mp z))] at H
    exact H
  refine zh_X8_isMarked (zbr_t h22 ?_)
  rw [h18]
  refine ⟨fun q => ?_, fun q => no (fun y => q (by rw [y.1]; rfl))⟩
  have q' : t.1 = 3 := (nI_eq (b := 3) (by omega) (by omega)).mp q
  have := w3 (by omega)
  have hin' : t.2.1 < T.1 := by omega
  have hb := hx.2.2 _ hin'
  rw [h20, nI_clamp (by omega), hb.1]
  refine ⟨nI_in (by omega) (by omega), fun q2 => ?_, fun q2 => no (fun y => q2 (by rw [y.2]))⟩
  rw [isC_t.mpr ⟨q', (nI_eq (by omega) (by omega)).mp q2⟩] at H
  exact H
theorem cmb_isMarked (h0 : ¬ g.1 1046 22 = 0) {c : Int32} (H : k 0 g e) : hci (d + 1) 231 [.ref 1046, .int c] g e k X := zh_X8_isMarked (zbr_f h0 H)
theorem cm_next (hm : mps g T t) (hw : wtk T t) (H : ∀ g', fr [] pF g g' → mps g' T (tkn T t.2.2.1) → kv g' e) : hcv (d + 3) 227 [.ref 1046] g e kv X := cm_stepOn hm.1 hw.2.1 hm.2.2.2.2.1 hm.2.2.2.2.2.2 (fun g' f' m' => H g' (f'.sub (by decide) (by decide)) m')
theorem cm_mark (hm : mps g T t) (hw : wtk T t) {c : Nat} (hcc : c < 256) (H1 : isC T t c = true → ∀ g', fr [] pF g g' → mps g' T (tkn T t.2.2.1) → kv g' e) (H0 : isC T t c = false → ∀ g', fr [] pF g g' → mbd g' 1 t.2.1 → kv g' e) : hcv (d + 4) 232 [.ref 1046, .int (nI c)] g e kv X := by
  have h22 := hm.2.2.2.2.2.2
  refine zh_X8_mark (zbr_t h22 (cm_isMarked hm hw hcc ?_))
  cases q : isC T t c with
  | false => exact zbr_t rfl (cm_wrong (c := 1) h22 hm.2.2.1 (by decide) (by decide) (fun g' f' b' => zbr_f b'.2.1 (H0 q g' f' b')))
  | true => exact zbr_f (by decide) (zbr_t h22 (cm_next hm hw (fun g' f' m' => H1 q g' f' m')))
theorem cmb_mark (h0 : ¬ g.1 1046 22 = 0) {c : Int32} (H : kv g e) : hcv (d + 1) 232 [.ref 1046, .int c] g e kv X := zh_X8_mark (zbr_f h0 (zbr_f h0 H))
theorem cm_readNumber (hm : mps g T t) (hw : wtk T t) {top : Nat} (ht : top ≤ 9999) (H1 : t.1 = 2 → t.2.2.2 ≤ top → ∀ g', fr [] pF g g' → mps g' T (tkn T t.2.2.1) → k (nI t.2.2.2) g' e) (H2 : t.1 = 2 → ¬ t.2.2.2 ≤ top → ∀ g', fr [] pF g g' → mbd g' 2 t.2.1 → k 0 g' e) (H3 : ¬ t.1 = 2 → ∀ g', fr [] pF g g' → mbd g' 1 t.2.1 → k 0 g' e) : hci (d + 4) 233 [.ref 1046, .int 0, .int (nI top)] g e k X := by
  have h22 := hm.2.2.2.2.2.2
  have w4 := hw.2.2.2.1
  have hT := hm.1.2.1
  have w2 := hw.2.1
  have bad : ∀ c, ¬ c = 0 → c ≤ 5 → (∀ g', fr [] pF g g' → mbd g' c t.2.1 → k 0 g' e) → hcv (d + 3) 228 [.ref 1046, .int (nI c)] g e (fun g1 e2 => hwi (d + 3) zm_X8_readNumber k X 59 [(0, .ref 1046)] g1 e2) X := fun c h0 h5 H => cm_wrong h22 hm.2.2.1 h0 h5 (fun g' f' b' => zh_X8_readNumber_59 (zbr_f b'.2.1 (zbr_f b'.2.1 (H g' f' b'))))
  refine zh_X8_readNumber (zbr_t h22 ?_)
  rw [hm.2.1]
  refine ⟨fun c => ?_, fun c => bad 1 (by decide) (by decide) (H3 (fun z => c (by rw [z]; rfl)))⟩
  have c' : t.1 = 2 := (nI_eq (b := 2) (by omega) (by omega)).mp c
  obtain ⟨v, v1, v2, v3⟩ := hm.2.2.2.2.2.1 c'
  rw [hm.2.2.1, hm.2.2.2.1, pk_sub hw.1, v2, show (4 : Int32) = nI 4 from rfl]
  refine ⟨fun c2 => bad 2 (by decide) (by decide) (H2 c' ?_), fun c2 => zbr_f (fun z => nI_pos (by omega) z) ?_⟩
  · have : 4 < t.2.2.1 - t.2.1 := Nat.lt_of_not_le (fun z => absurd c2 (nI_nlt z (by omega)))
    have := (hw.2.2.2.2.2 c').2 this
    omega
  · have le : t.2.2.1 - t.2.1 ≤ 4 := Nat.le_of_not_lt (fun z => c2 (nI_lt z (by omega)))
    have ev := v3 le
    refine ⟨fun c3 => ?_, fun c3 => bad 2 (by decide) (by decide) (H2 c' (fun z => c3 (nI_le (by omega) (by omega))))⟩
    have l3 : v ≤ top := (nI_leI (by omega) (by omega)).mp c3
    refine zh_X8_readNumber_59 (zbr_t h22 (zbr_t h22 (cm_next hm hw (fun g' f' m' => ?_))))
    rw [v2, ev]
    exact H1 c' (by omega) g' f' m'
theorem cmb_readNumber (h0 : ¬ g.1 1046 22 = 0) {a b : Int32} (H : k 0 g e) : hci (d + 1) 233 [.ref 1046, .int a, .int b] g e k X := zh_X8_readNumber (zbr_f h0 H)
/-- where steps are laid -/
def msq (g : hG) (T : sT) (pu : Bool) (t : tok) (L : List tk) : Prop := mps g T t ∧ wtk T t ∧ (g.1 1046 25 = nI (wn pu) ∧ g.2.2 1046 3 = 1048 + wn pu) ∧ g.1 1050 (6 + wn pu) = nI L.length ∧ ∀ j c, L[j]? = some c → g.1 (1056 + wn pu) (700 + j) = cM c
def lfr (pu : Bool) (g g' : hG) : Prop := (∀ b, ¬ b = 1046 → ¬ b = 1050 → ¬ b = 1056 + wn pu → g'.1 b = g.1 b) ∧ (∀ k, ¬ k ∈ pF → g'.1 1046 k = g.1 1046 k) ∧ (∀ k, ¬ k = 6 + wn pu → g'.1 1050 k = g.1 1050 k) ∧ (∀ j, j < 700 → g'.1 (1056 + wn pu) j = g.1 (1056 + wn pu) j) ∧ g'.2 = g.2
theorem lfr.refl {pu : Bool} : lfr pu g g := ⟨fun _ _ _ _ => rfl, fun _ _ => rfl, fun _ _ => rfl, fun _ _ => rfl, rfl⟩
theorem lfr.trans {pu : Bool} {g' g'' : hG} (h : lfr pu g g') (h' : lfr pu g' g'') : lfr pu g g'' := ⟨fun b q r u => (h'.1 b q r u).trans (h.1 b q r u), fun k q => (h'.2.1 k q).trans (h.2.1 k q), fun k q => (h'.2.2.1 k q).trans (h.2.2.1 k q), fun j q => (h'.2.2.2.1 j q).trans (h.2.2.2.1 j q), h'.2.2.2.2.trans h.2.2.2.2⟩
theorem wn_le (pu : Bool) : wn pu ≤ 1 := by unfold wn; split <;> omega
theorem lfr_p {pu : Bool} {g' : hG} (h : fr [] pF g g') : lfr pu g g' := ⟨fun b q _ _ => h.1 b (by simp) q, h.2.1, fun k _ => by rw [h.1 1050 (by simp) (by decide)], fun j _ => by rw [h.1 (1056 + wn pu) (by simp) (by omega)], h.2.2⟩
theorem msq_p {pu : Bool} {g' : hG} {t' : tok} {L : List tk} (h : msq g T pu t L) (f : fr [] pF g g') (hm : mps g' T t') (hw : wtk T t') : msq g' T pu t' L := by
  obtain ⟨h1, h2, h3, h4, h5⟩ := h
  refine ⟨hm, hw, ⟨by rw [f.2.1 25 (by decide)]; exact h3.1, by rw [f.2.2]; exact h3.2⟩, by rw [f.1 1050 (by simp) (by decide)]; exact h4, ?_⟩
  rw [f.1 (1056 + wn pu) (by simp) (by omega)]
  exact h5
theorem cm_lay {pu : Bool} {L : List tk} (h : msq g T pu t L) (hl : L.length < 700) {c : tk} (H : ∀ g', lfr pu g g' → msq g' T pu t (L ++ [c]) → kv g' e) : hcv (d + 1) 234 [.ref 1046, .int (cM c)] g e kv X := by
  obtain ⟨h1, h2, h3, h4, h5⟩ := h
  have h22 := h1.2.2.2.2.2.2
  have fin : ∀ R W, R = 1056 + wn pu → W = 6 + wn pu → kv (sI (sI g R (700 + L.length) (cM c)) 1050 W (nI (L.length + 1))) e := by
    intro R W hR hW
    have w1 := wn_le pu
    have q : ∀ b, ¬ b = 1050 → ¬ b = R → (sI (sI g R (700 + L.length) (cM c)) 1050 W (nI (L.length + 1))).1 b = g.1 b := fun b q1 q2 => by rw [sI_off _ q1, sI_off _ q2]
    have q6 := q 1046 (by omega) (by omega)
    refine H _ ⟨fun b _ r u => q b r (by omega), fun k _ => by rw [q6], fun k u => by rw [sI_at, upd_off _ _ (by omega), sI_off _ (by omega)], fun j u => by rw [← hR, sI_off _ (by omega), sI_at, upd_off _ _ (by omega)], rfl⟩ ⟨?_, h2, ⟨by rw [q6]; exact h3.1, h3.2⟩, ?_, fun j c' hj => ?_⟩
    · unfold mps mtx
      rw [q6, q 1059 (by omega) (by omega)]
      exact h1
    · rw [← hW, sI_at, upd_at, List.length_append]; rfl
    · rw [← hR, sI_off _ (by omega), sI_at]
      by_cases u : j = L.length
      · subst u
        rw [List.getElem?_append_right (Nat.le_refl _), Nat.sub_self] at hj
        rw [upd_at, ← Option.some.inj hj]
      · have hjl : j < L.length := by
          have := (List.getElem?_eq_some_iff.mp hj).1
          rw [List.length_append] at this
          have : j < L.length + 1 := this
          omega
        rw [List.getElem?_append_left hjl] at hj
        rw [upd_off _ _ (by omega)]
        have := h5 j c' hj
        rw [← hR] at this
        exact this
  refine zh_X8_lay (zbr_t h22 ?_)
  rw [h3.1]
  have e2 : (4 + 2 : Int32).toNatClampNeg = 6 := rfl
  have e3 : (4 + 3 : Int32).toNatClampNeg = 7 := rfl
  have i2 : hin (4 + 2 : Int32) 8 := nI_in (c := 6) (by omega) (by omega)
  have i3 : hin (4 + 3 : Int32) 8 := nI_in (c := 7) (by omega) (by omega)
  have e7 : (700 : Int32) + nI L.length = nI (700 + L.length) := by rw [show (700 : Int32) = nI 700 from rfl, nI_add]
  have i7 : hin (nI (700 + L.length)) 1400 := nI_in (by omega) (by omega)
  have c7 : (nI (700 + L.length)).toNatClampNeg = 700 + L.length := nI_clamp (by omega)
  cases pu with
  | true =>
    have h4 : g.1 1050 6 = nI L.length := h4
    refine zbr_t rfl (zbr_t rfl ?_)
    rw [e2, h4, e7, c7, sI_off g (show ¬ 1050 = 1056 by decide), h4, nI_1]
    refine ⟨i2, i7, i2, i2, ?_⟩
    rintro g5 rfl
    exact fin 1056 6 rfl rfl
  | false =>
    have h4 : g.1 1050 7 = nI L.length := h4
    refine zbr_f (by decide) (zbr_f (by decide) ?_)
    rw [e3, h4, e7, c7, sI_off g (show ¬ 1050 = 1057 by decide), h4, nI_1]
    refine ⟨i3, i7, i3, i3, ?_⟩
    rintro g5 rfl
    exact fin 1057 7 rfl rfl
theorem cmb_lay (h0 : ¬ g.1 1046 22 = 0) {c : Int32} (H : kv g e) : hcv (d + 1) 234 [.ref 1046, .int c] g e kv X := zh_X8_lay (zbr_f h0 H)
theorem hR_w : ∀ pu, hR (1048 + wn pu) 0 = some 34 ∧ hR (1048 + wn pu) 1 = some 36 ∧ hR (1048 + wn pu) 2 = some 38 ∧ hR (1048 + wn pu) 3 = some 40 ∧ hR (1048 + wn pu) 4 = some (if pu = true then 42 else 44) ∧ hT (1048 + wn pu) = some (.inl (4, 5)) := by decide
theorem cm_whichV {pu : Bool} {L : List tk} (h : msq g T pu t L) (H : k (match pval T pu t with | some v => nI v | none => -1) g e) : hci (d + 7) 230 [.ref 1046, .ref (1048 + wn pu)] g e k X := by
  obtain ⟨a0, a1, a2, a3, a4, a5⟩ := hR_w pu
  unfold pval at H
  have st : ∀ {d : Nat} {k : Int32 → hG → hE → Prop} {p : Nat}, (p < 58 ∧ p % 2 = 0) → k (bI (isW T t (htx (p / 2)))) g e → hci (d + 5) 229 [.ref 1046, .ref p] g e k X := fun hp K => cm_is h.1 h.2.1 hp K
  refine zh_X8_which a5 ?_
  refine zh_X8_which_2 (l2 := nI 0) a5 (zbr_f (by decide) ⟨34, nI_in (by omega) (by omega), a0, by decide, st (by decide) ?_⟩)
  cases q0 : isW T t (htx 3) with
  | true => rw [if_pos q0] at H; exact zbr_f (by rw [show isW T t (htx (34 / 2)) = true from q0]; decide) H
  | false =>
    rw [if_neg (by rw [q0]; decide)] at H
    refine zbr_t (by rw [show isW T t (htx (34 / 2)) = false from q0]; rfl) (zh_X8_which_2 (l2 := nI 1) a5 (zbr_f (by decide) ⟨36, nI_in (by omega) (by omega), a1, by decide, st (by decide) ?_⟩))
    cases q1 : isW T t (htx 10) with
    | true => rw [if_pos q1] at H; exact zbr_f (by rw [show isW T t (htx (36 / 2)) = true from q1]; decide) H
    | false =>
      rw [if_neg (by rw [q1]; decide)] at H
      refine zbr_t (by rw [show isW T t (htx (36 / 2)) = false from q1]; rfl) (zh_X8_which_2 (l2 := nI 2) a5 (zbr_f (by decide) ⟨38, nI_in (by omega) (by omega), a2, by decide, st (by decide) ?_⟩))
      cases q2 : isW T t (htx 11) with
      | true => rw [if_pos q2] at H; exact zbr_f (by rw [show isW T t (htx (38 / 2)) = true from q2]; decide) H
      | false =>
        rw [if_neg (by rw [q2]; decide)] at H
        refine zbr_t (by rw [show isW T t (htx (38 / 2)) = false from q2]; rfl) (zh_X8_which_2 (l2 := nI 3) a5 (zbr_f (by decide) ⟨40, nI_in (by omega) (by omega), a3, by decide, st (by decide) ?_⟩))
        cases q3 : isW T t (htx 12) with
        | true => rw [if_pos q3] at H; exact zbr_f (by rw [show isW T t (htx (40 / 2)) = true from q3]; decide) H
        | false =>
          rw [if_neg (by rw [q3]; decide)] at H
          refine zbr_t (by rw [show isW T t (htx (40 / 2)) = false from q3]; rfl) (zh_X8_which_2 (l2 := nI 4) a5 (zbr_f (by decide) ⟨if pu = true then 42 else 44, nI_in (by omega) (by omega), a4, by cases pu <;> decide, st (by cases pu <;> decide) ?_⟩))
          have ex : htx ((if pu = true then 42 else 44) / 2) = htx (if pu = true then 13 else 14) := by cases pu <;> rfl
          rw [ex]
          cases q4 : isW T t (htx (if pu = true then 13 else 14)) with
          | true => rw [if_pos q4] at H; exact zbr_f (by decide) H
          | false =>
            rw [if_neg (by rw [q4]; decide)] at H
            exact zbr_t rfl (zh_X8_which_2 (l2 := nI 5) a5 (zbr_t (by decide) H))
end
