/-! undo, note, forget, image, restore, fault, feed of the model -/
section
variable {d : Nat} {k : Int32 → hG → hE → Prop} {kv : hG → hE → Prop} {X : Nat → hG → hE → Prop} {g : hG} {e : hE} {x : sX} {s : sS}
theorem ms_undo (hm : RM g s) (H : ∀ g' u, mfr g g' → RM g' (r_undo s).2 → om c12 (r_undo s).1 u g' → k u g' e) : hci (d + 3) 285 [.ref 1046] g e k X := by
  have m0 : RM (sI g 1046 4 0) s := RM_code hm
  have f0 : mfr g (sI g 1046 4 0) := mfr_code
  have k0 : (sI g 1046 4 0).1 1046 4 = 0 := code_at
  have h4 := hm.1.1.1.2
  refine zh_X8_undo ?_
  generalize sI g 1046 4 0 = g0 at *
  obtain ⟨a1, a2, a3⟩ := m0.2.1.1
  rw [a1]
  unfold r_undo at H
  obtain ⟨as, has⟩ : ∃ as, as = s.2.1.1 := ⟨_, rfl⟩
  rw [← has] at a1 a2 a3 H ⊢
  by_cases c : as.length = 0
  · rw [if_pos c] at H
    exact zbr_t (by rw [c]; rfl) (H _ _ f0 m0 ⟨rfl, k0⟩)
  · rw [if_neg c] at H
    refine zbr_f (nI_ne0 (by omega) (by omega)) ?_
    have hlt : as.length - 1 < as.length := by omega
    have gl : as[as.length - 1]? = some as[as.length - 1] := List.getElem?_eq_getElem hlt
    rw [List.getD_eq_getElem?_getD, gl] at H
    have cp := a3 _ _ gl
    generalize as[as.length - 1] = P at *
    rw [nI_sub1 (by omega), sI_at, upd_at, show (137 : Int32) = nI 137 from rfl, pk_mul]
    have f1 : fr [] [32] g0 (sI g0 1046 32 (nI (as.length - 1))) := fr_fld (by decide)
    have k1 : (sI g0 1046 32 (nI (as.length - 1))).1 1046 32 = nI (as.length - 1) := by rw [sI_at, upd_at]
    generalize sI g0 1046 32 (nI (as.length - 1)) = g1 at *
    have d1 : mdr g1 s.1 := mdr_fr f1 (by decide) (by decide) m0.1
    refine cm_unpack (a := 1064) (n := 5480) rfl (by decide) (by omega) (by decide) (fun g2 f2 p2 => ?_)
    rw [f2.2.1 32 (by decide), k1]
    rw [f1.1 1064 (by decide) (by decide)] at p2
    have d2 := mdr_un d1 f2 p2 cp
    have st := stt_pg cp.1
    have f3 : fr uL [31, 32] g0 g2 := (f1.sub (by decide) (by decide)).trans (f2.sub (by decide) (by decide))
    obtain ⟨h1, h2, h3, h5, h6⟩ := m0
    refine H _ _ (f0.trans (mfr_fr (by decide) f3)) ⟨d2, mbk_st st ⟨⟨?_, ?_, fun i Q hi => ?_⟩, ⟨?_, h2.2.1.2⟩, fun j hj => ?_⟩, mkp_st st (mkp_cg (f3.2.1 52 (by decide)) (f3.2.1 53 (by decide)) (f3.2.1 54 (by decide)) (fun b hb hb' => f3.1 b (fun q => by simp only [uL, List.mem_cons, List.not_mem_nil, or_false] at q; omega) (by omega)) h3), ?_, by rw [f3.2.1 24 (by decide)]; exact h6⟩ ⟨rfl, by rw [f3.2.1 4 (by decide)]; exact k0⟩
    · rw [f2.2.1 32 (by decide), k1, List.length_take, Nat.min_eq_left (by omega)]
    · rw [List.length_take]; omega
    · rw [f3.1 1064 (by decide) (by decide)]
      have hi' : i < as.length - 1 := by
        have := (List.getElem?_eq_some_iff.mp hi).1
        rw [List.length_take] at this
        omega
      rw [List.getElem?_take_of_lt hi'] at hi
      exact a3 i Q hi
    · rw [f3.2.1 33 (by decide), f3.1 1073 (by decide) (by decide), f3.1 1074 (by decide) (by decide), f3.1 1075 (by decide) (by decide), f3.1 1076 (by decide) (by decide)]
      exact h2.2.1.1
    · rw [f3.1 1058 (by decide) (by decide)]; exact h2.2.2 j hj
    · unfold mtp
      rw [f3.2.1 15 (by decide), f3.1 1059 (by decide) (by decide)]
      exact h5
/-- all but the notes stays -/
theorem RM_notes {g' : hG} {nt : List sN} (hm : RM g s) (f : fr [1073, 1074, 1075, 1076] [33] g g') (hn : ntf (g'.1 1046 33) (g'.1 1073) (g'.1 1074) (g'.1 1075) (g'.1 1076) nt) (hw : wfn s.1.1 nt) : RM g' (s.1, (s.2.1.1, nt, s.2.1.2.2), s.2.2) := by
  obtain ⟨h1, h2, h3, h5, h6⟩ := hm
  refine ⟨mdr_fr f (by decide) (by decide) h1, ⟨?_, ⟨hn, hw⟩, fun j hj => ?_⟩, mkp_cg (f.2.1 52 (by decide)) (f.2.1 53 (by decide)) (f.2.1 54 (by decide)) (fun b hb hb' => f.1 b (fun q => by simp only [List.mem_cons, List.not_mem_nil, or_false] at q; omega) (by omega)) h3, ?_, by rw [f.2.1 24 (by decide)]; exact h6⟩
  · rw [f.2.1 32 (by decide), f.1 1064 (by decide) (by decide)]; exact h2.1
  · rw [f.1 1058 (by decide) (by decide)]; exact h2.2.2 j hj
  · unfold mtp
    rw [f.2.1 15 (by decide), f.1 1059 (by decide) (by decide)]
    exact h5
theorem ms_note (hm : RM g s) {z p n c : Int32} (H : ∀ g' u, mfr g g' → RM g' (r_note s z p n c).2 → om c12 (r_note s z p n c).1 u g' → k u g' e) : hci (d + 5) 317 [.ref 1046, .int z, .int p, .int n, .int c] g e k X := by
  have m0 : RM (sI g 1046 4 0) s := RM_code hm
  have f0 : mfr g (sI g 1046 4 0) := mfr_code
  have k0 : (sI g 1046 4 0).1 1046 4 = 0 := code_at
  have h4 := hm.1.1.1.2
  refine zh_X8_note ?_
  generalize sI g 1046 4 0 = g0 at *
  have out : (iszb s.1.1 z && iszb (s.1.2.1 z.toNatClampNeg).1 p) = false → hci (d + 4) 215 [.ref 1046, .int 1] g0 e (fun x7 g5 e6 => k x7 g5 e6) X := by
    intro q
    have e1 : r_note s z p n c = (.inr 1, s) := by unfold r_note; rw [q]; rfl
    rw [e1] at H
    exact cm_fail (H _ _ (f0.trans mfr_code) (RM_code m0) code_at)
  refine cm_isPlace m0.1.1 (fun i hi hz j hj hp => zbr_f (by decide) ?_) (fun q => zbr_t rfl (out (by rw [iszb_f (by omega) q]; rfl))) (fun i hi hz q => zbr_t rfl (out ?_))
  case refine_2 =>
    subst hz
    have := (m0.1.1.2 i hi).2.1.2
    rw [nI_clamp (by omega), iszb_f (n := (s.1.2.1 i).1) (by omega) q, Bool.and_false]
  subst hz
  subst hp
  have n2 := (m0.1.1.2 i hi).2.1.2
  have ei : (nI i).toNatClampNeg = i := nI_clamp (by omega)
  have ej : (nI j).toNatClampNeg = j := nI_clamp (by omega)
  obtain ⟨⟨t1, t2⟩, w1, w2⟩ := m0.2.1.2.1
  unfold r_note at H
  rw [ei, iszb_t (by omega) hi, iszb_t (by omega) hj, ej, Bool.and_self, if_pos rfl] at H
  have bad : ¬ (isrb 0 20 n = true ∧ s.2.1.2.1.length < 8) → hci (d + 4) 277 [.ref 1046, .int 2] g0 e (fun x7 g5 e6 => k x7 g5 e6) X := by
    intro q
    rw [if_neg q] at H
    refine cm_refuse (j := 2) (by omega) (H _ _ (f0.trans (mfr_fr (L := [1058]) (F := []) (by decide) (fr.refl.I (by decide) (by decide)))) (RM_ref m0 (by omega)) ⟨rfl, ?_⟩)
    rw [sI_off _ (by decide)]; exact k0
  rw [t1]
  refine ⟨fun c1 => bad (fun y => ?_), fun c1 => cm_isInR (a := 0) (b := 20) (by omega) (by omega) (by decide) (by decide) (fun m _ m2 hn => zbr_f (by decide) ?_) (fun q => zbr_t rfl (bad (fun y => ?_)))⟩
  · have := (nI_eq (b := 8) (by omega) (by omega)).mp c1
    have := y.2
    omega
  · subst hn
    have c8 : s.2.1.2.1.length < 8 := by
      have : ¬ s.2.1.2.1.length = 8 := fun q => c1 (by rw [q]; rfl)
      omega
    rw [if_pos ⟨isrb_t (by omega) (by omega) m2, c8⟩, nI_clamp (show m < 2 ^ 31 by omega)] at H
    have eL : (nI s.2.1.2.1.length).toNatClampNeg = s.2.1.2.1.length := nI_clamp (by omega)
    have h8 : hin (nI s.2.1.2.1.length) 8 := nI_in c8 (by omega)
    rw [t1, eL, sI_off g0 (show ¬ 1046 = 1073 by decide), t1, eL]
    refine ⟨h8, h8, ?_⟩
    rintro g18 rfl
    rw [sI_off _ (show ¬ 1046 = 1074 by decide), sI_off g0 (show ¬ 1046 = 1073 by decide), t1, eL]
    refine ⟨h8, ?_⟩
    have fin : ∀ f, f < 2 → (∀ g' u, mfr g g' → RM g' (s.1, (s.2.1.1, s.2.1.2.1 ++ [(i, j, m, f)], s.2.1.2.2), s.2.2) → om c12 (.inl (nI (s.2.1.2.1.length + 1))) u g' → k u g' e) → k (nI (s.2.1.2.1.length + 1)) (sI (sI (sI (sI (sI g0 1073 s.2.1.2.1.length (nI i)) 1074 s.2.1.2.1.length (nI j)) 1075 s.2.1.2.1.length (nI m)) 1076 s.2.1.2.1.length (nI f)) 1046 33 (nI (s.2.1.2.1.length + 1))) e := by
      intro f hf H
      have fA : fr [1073, 1074, 1075, 1076] [33] g0 (sI (sI (sI (sI (sI g0 1073 s.2.1.2.1.length (nI i)) 1074 s.2.1.2.1.length (nI j)) 1075 s.2.1.2.1.length (nI m)) 1076 s.2.1.2.1.length (nI f)) 1046 33 (nI (s.2.1.2.1.length + 1))) := ((((fr.refl.I (by decide) (by decide)).I (by decide) (by decide)).I (by decide) (by decide)).I (by decide) (by decide)).F (by decide)
      refine H _ _ (f0.trans (mfr_fr (by decide) fA)) (RM_notes m0 fA ⟨?_, fun a w ha => ?_⟩ ⟨?_, fun w hw => ?_⟩) ⟨rfl, by rw [fA.2.1 4 (by decide)]; exact k0⟩
      · rw [sI_at, upd_at, List.length_append]; rfl
      · have r1 : ∀ v, (sI (sI (sI (sI (sI g0 1073 s.2.1.2.1.length (nI i)) 1074 s.2.1.2.1.length (nI j)) 1075 s.2.1.2.1.length (nI m)) 1076 s.2.1.2.1.length (nI f)) 1046 33 v).1 1073 = upd (g0.1 1073) s.2.1.2.1.length (nI i) := fun v => by rw [sI_off _ (by decide), sI_off _ (by decide), sI_off _ (by decide), sI_off _ (by decide), sI_at]
        have r2 : ∀ v, (sI (sI (sI (sI (sI g0 1073 s.2.1.2.1.length (nI i)) 1074 s.2.1.2.1.length (nI j)) 1075 s.2.1.2.1.length (nI m)) 1076 s.2.1.2.1.length (nI f)) 1046 33 v).1 1074 = upd (g0.1 1074) s.2.1.2.1.length (nI j) := fun v => by rw [sI_off _ (by decide), sI_off _ (by decide), sI_off _ (by decide), sI_at, sI_off _ (by decide)]
        have r3 : ∀ v, (sI (sI (sI (sI (sI g0 1073 s.2.1.2.1.length (nI i)) 1074 s.2.1.2.1.length (nI j)) 1075 s.2.1.2.1.length (nI m)) 1076 s.2.1.2.1.length (nI f)) 1046 33 v).1 1075 = upd (g0.1 1075) s.2.1.2.1.length (nI m) := fun v => by rw [sI_off _ (by decide), sI_off _ (by decide), sI_at, sI_off _ (by decide), sI_off _ (by decide)]
        have r4 : ∀ v, (sI (sI (sI (sI (sI g0 1073 s.2.1.2.1.length (nI i)) 1074 s.2.1.2.1.length (nI j)) 1075 s.2.1.2.1.length (nI m)) 1076 s.2.1.2.1.length (nI f)) 1046 33 v).1 1076 = upd (g0.1 1076) s.2.1.2.1.length (nI f) := fun v => by rw [sI_off _ (by decide), sI_at, sI_off _ (by decide), sI_off _ (by decide), sI_off _ (by decide)]
        rw [r1, r2, r3, r4]
        by_cases ca : a = s.2.1.2.1.length
        · subst ca
          rw [List.getElem?_append_right (Nat.le_refl _), Nat.sub_self] at ha
          rw [upd_at, upd_at, upd_at, upd_at, ← Option.some.inj ha]
          exact ⟨rfl, rfl, rfl, rfl⟩
        · have hlt : a < s.2.1.2.1.length := by
            have := (List.getElem?_eq_some_iff.mp ha).1
            rw [List.length_append] at this
            have : a < s.2.1.2.1.length + 1 := this
            omega
          rw [List.getElem?_append_left hlt] at ha
          rw [upd_off _ _ ca, upd_off _ _ ca, upd_off _ _ ca, upd_off _ _ ca]
          exact t2 a w ha
      · rw [List.length_append]
        show s.2.1.2.1.length + 1 ≤ 8
        omega
      · rcases List.mem_append.mp hw with hw | hw
        · exact w2 w hw
        · rw [List.mem_singleton.mp hw]
          exact ⟨hi, show j < 16 by omega, m2, show f ≤ 1 by omega⟩
    have k33 : ∀ v, (sI (sI (sI (sI g0 1073 s.2.1.2.1.length (nI i)) 1074 s.2.1.2.1.length (nI j)) 1075 s.2.1.2.1.length (nI m)) 1076 s.2.1.2.1.length v).1 1046 33 = nI s.2.1.2.1.length := fun v => by rw [sI_off _ (by decide), sI_off _ (by decide), sI_off _ (by decide), sI_off _ (by decide), t1]
    have k34 : (sI (sI (sI g0 1073 s.2.1.2.1.length (nI i)) 1074 s.2.1.2.1.length (nI j)) 1075 s.2.1.2.1.length (nI m)).1 1046 33 = nI s.2.1.2.1.length := by rw [sI_off _ (by decide), sI_off _ (by decide), sI_off _ (by decide), t1]
    rw [k34, eL]
    refine ⟨fun cc => ⟨h8, ?_⟩, fun cc => ⟨h8, ?_⟩⟩
    · rintro g21 rfl
      rw [if_pos cc] at H
      rw [k33, nI_1, sI_at, upd_at]
      exact fin 0 (by omega) H
    · rintro g21 rfl
      rw [if_neg cc] at H
      rw [k33, nI_1, sI_at, upd_at]
      exact fin 1 (by omega) H
  · rw [isrb_f (by omega) (by omega) q] at y
    exact absurd y.1 (by decide)
theorem ms_forget (hm : RM g s) (H : ∀ g', mfr g g' → RM g' (s_forget s) → kv g' e) : hcv (d + 1) 322 [.ref 1046] g e kv X := by
  have fA : fr [1073, 1074, 1075, 1076] [33] (sI g 1046 4 0) (sI (sI g 1046 4 0) 1046 33 0) := fr.refl.F (by decide)
  refine zh_X8_forget (H _ (mfr_code.trans (mfr_fr (by decide) fA)) (RM_notes (nt := []) (RM_code hm) fA ⟨?_, fun a w ha => ?_⟩ ⟨Nat.zero_le _, fun w hw => ?_⟩))
  · rw [sI_at, upd_at]; rfl
  · cases ha
  · cases hw
theorem cm_copyTo {a b n : Nat} (ha : hT a = some (.inl (0, n))) (hb : hT b = some (.inl (0, n))) (hab : ¬ b = a) (hn : n < 2 ^ 20) (H : ∀ f, (∀ i, i < n → f i = g.1 b i) → kv (aI g a f) e) : hcv (d + 1) 329 [.ref a, .ref b] g e kv X := by
  refine zh_X8_copyTo ha hb ?_
  have : ∀ i, i ≤ n → ∀ f, (∀ j, j < i → f j = g.1 b j) → hwv d zm_X8_copyTo kv X 2 [(0, .ref a), (1, .ref b), (2, .int (nI i))] (aI g a f) e := by
    refine hdown ?_ ?_
    · intro f hf
      exact zh_X8_copyTo_2 ha hb (zbr_t (nI_le (Nat.le_refl _) (by omega)) (H f hf))
    · intro i hi W f hf
      refine zh_X8_copyTo_2 ha hb (zbr_f (nI_ge hi (by omega)) ⟨nI_in hi (by omega), nI_in hi (by omega), ?_⟩)
      rw [nI_clamp (by omega), aI_off _ _ hab, sI_aI, nI_1]
      refine W _ (fun j hj => ?_)
      by_cases c : j = i
      · subst c; rw [upd_at]
      · rw [upd_off _ _ c]; exact hf j (by omega)
  have := this 0 (Nat.zero_le _) (g.1 a) (fun j h => absurd h (Nat.not_lt_zero _))
  rw [aI_id] at this
  exact this
theorem mbk_copy {na nn : Int32} {f0 f1 f2 f3 f4 f5 h0 h1 h2 h3 h4 h5 : Nat → Int32} {b : sB} (hx : x.1 ≤ 4) (q0 : ∀ i, i < 5480 → h0 i = f0 i) (q1 : ∀ i, i < 8 → h1 i = f1 i) (q2 : ∀ i, i < 8 → h2 i = f2 i) (q3 : ∀ i, i < 8 → h3 i = f3 i) (q4 : ∀ i, i < 8 → h4 i = f4 i) (q5 : ∀ i, i < 3 → h5 i = f5 i) (hb : mbk na nn f0 f1 f2 f3 f4 f5 x b) : mbk na nn h0 h1 h2 h3 h4 h5 x b := by
  obtain ⟨⟨a1, a2, a3⟩, ⟨⟨t1, t2⟩, w⟩, r⟩ := hb
  refine ⟨⟨a1, a2, fun i P hi => ?_⟩, ⟨⟨t1, fun i n hi => ?_⟩, w⟩, fun k hk => by rw [q5 k hk]; exact r k hk⟩
  · have := (List.getElem?_eq_some_iff.mp hi).1
    exact mpg_cg (fun j hj => q0 _ (by omega)) hx (a3 i P hi)
  · have := (List.getElem?_eq_some_iff.mp hi).1
    have := w.1
    rw [q1 i (by omega), q2 i (by omega), q3 i (by omega), q4 i (by omega)]
    exact t2 i n hi
theorem ms_image (hm : RM g s) (H : ∀ g', mfr g g' → RM g' (s_image s) → kv g' e) : hcv (d + 3) 330 [.ref 1046] g e kv X := by
  have h4 := hm.1.1.1.2
  refine zh_X8_image ?_
  rintro g1 rfl
  have F1 : fr [] [4, 52, 53, 54] g (sI (sI (sI (sI g 1046 4 0) 1046 52 1) 1046 53 ((sI (sI g 1046 4 0) 1046 52 1).1 1046 32)) 1046 54 ((sI (sI (sI g 1046 4 0) 1046 52 1) 1046 53 ((sI (sI g 1046 4 0) 1046 52 1).1 1046 32)).1 1046 33)) := (((fr.refl.F (by decide)).F (by decide)).F (by decide)).F (by decide)
  have k52 : (sI (sI (sI (sI g 1046 4 0) 1046 52 1) 1046 53 ((sI (sI g 1046 4 0) 1046 52 1).1 1046 32)) 1046 54 ((sI (sI (sI g 1046 4 0) 1046 52 1) 1046 53 ((sI (sI g 1046 4 0) 1046 52 1).1 1046 32)).1 1046 33)).1 1046 52 = 1 := by rw [sI_at, upd_off _ _ (by decide), sI_at, upd_off _ _ (by decide), sI_at, upd_at]
  have k53 : (sI (sI (sI (sI g 1046 4 0) 1046 52 1) 1046 53 ((sI (sI g 1046 4 0) 1046 52 1).1 1046 32)) 1046 54 ((sI (sI (sI g 1046 4 0) 1046 52 1) 1046 53 ((sI (sI g 1046 4 0) 1046 52 1).1 1046 32)).1 1046 33)).1 1046 53 = g.1 1046 32 := by rw [sI_at, upd_off _ _ (by decide), sI_at, upd_at, sI_at, upd_off _ _ (by decide), sI_at, upd_off _ _ (by decide)]
  have k54 : (sI (sI (sI (sI g 1046 4 0) 1046 52 1) 1046 53 ((sI (sI g 1046 4 0) 1046 52 1).1 1046 32)) 1046 54 ((sI (sI (sI g 1046 4 0) 1046 52 1) 1046 53 ((sI (sI g 1046 4 0) 1046 52 1).1 1046 32)).1 1046 33)).1 1046 54 = g.1 1046 33 := by rw [sI_at, upd_at, sI_at, upd_off _ _ (by decide), sI_at, upd_off _ _ (by decide), sI_at, upd_off _ _ (by decide)]
  generalize sI (sI (sI (sI g 1046 4 0) 1046 52 1) 1046 53 ((sI (sI g 1046 4 0) 1046 52 1).1 1046 32)) 1046 54 ((sI (sI (sI g 1046 4 0) 1046 52 1) 1046 53 ((sI (sI g 1046 4 0) 1046 52 1).1 1046 32)).1 1046 33) = g1 at *
  have d1 : mdr g1 s.1 := mdr_fr F1 (by decide) (by decide) hm.1
  refine cm_pack (a := 1081) (n := 137) (o := 0) rfl (by decide) (by omega) (by decide) (fun fp pf _ => ?_)
  refine cm_copyTo (a := 1082) (b := 1064) (n := 5480) rfl rfl (by decide) (by decide) (fun c2 e2 => ?_)
  refine cm_copyTo (a := 1083) (b := 1073) (n := 8) rfl rfl (by decide) (by decide) (fun c3 e3 => ?_)
  refine cm_copyTo (a := 1084) (b := 1074) (n := 8) rfl rfl (by decide) (by decide) (fun c4 e4 => ?_)
  refine cm_copyTo (a := 1085) (b := 1075) (n := 8) rfl rfl (by decide) (by decide) (fun c5 e5 => ?_)
  refine cm_copyTo (a := 1086) (b := 1076) (n := 8) rfl rfl (by decide) (by decide) (fun c6 e6 => ?_)
  refine cm_copyTo (a := 1087) (b := 1058) (n := 3) rfl rfl (by decide) (by decide) (fun c7 e7 => ?_)
  simp only [aI_off _ _ (show ¬ 1064 = 1081 by decide)] at e2
  simp only [aI_off _ _ (show ¬ 1073 = 1082 by decide), aI_off _ _ (show ¬ 1073 = 1081 by decide)] at e3
  simp only [aI_off _ _ (show ¬ 1074 = 1083 by decide), aI_off _ _ (show ¬ 1074 = 1082 by decide), aI_off _ _ (show ¬ 1074 = 1081 by decide)] at e4
  simp only [aI_off _ _ (show ¬ 1075 = 1084 by decide), aI_off _ _ (show ¬ 1075 = 1083 by decide), aI_off _ _ (show ¬ 1075 = 1082 by decide), aI_off _ _ (show ¬ 1075 = 1081 by decide)] at e5
  simp only [aI_off _ _ (show ¬ 1076 = 1085 by decide), aI_off _ _ (show ¬ 1076 = 1084 by decide), aI_off _ _ (show ¬ 1076 = 1083 by decide), aI_off _ _ (show ¬ 1076 = 1082 by decide), aI_off _ _ (show ¬ 1076 = 1081 by decide)] at e6
  simp only [aI_off _ _ (show ¬ 1058 = 1086 by decide), aI_off _ _ (show ¬ 1058 = 1085 by decide), aI_off _ _ (show ¬ 1058 = 1084 by decide), aI_off _ _ (show ¬ 1058 = 1083 by decide), aI_off _ _ (show ¬ 1058 = 1082 by decide), aI_off _ _ (show ¬ 1058 = 1081 by decide)] at e7
  have F2 : fr [1081, 1082, 1083, 1084, 1085, 1086, 1087] [] g1 (aI (aI (aI (aI (aI (aI (aI g1 1081 fp) 1082 c2) 1083 c3) 1084 c4) 1085 c5) 1086 c6) 1087 c7) := ((((((fr_aI (by decide) (by decide)).trans (fr_aI (by decide) (by decide))).trans (fr_aI (by decide) (by decide))).trans (fr_aI (by decide) (by decide))).trans (fr_aI (by decide) (by decide))).trans (fr_aI (by decide) (by decide))).trans (fr_aI (by decide) (by decide))
  have r1 : (aI (aI (aI (aI (aI (aI (aI g1 1081 fp) 1082 c2) 1083 c3) 1084 c4) 1085 c5) 1086 c6) 1087 c7).1 1081 = fp := by rw [aI_off _ _ (by decide), aI_off _ _ (by decide), aI_off _ _ (by decide), aI_off _ _ (by decide), aI_off _ _ (by decide), aI_off _ _ (by decide), aI1]
  have r2 : (aI (aI (aI (aI (aI (aI (aI g1 1081 fp) 1082 c2) 1083 c3) 1084 c4) 1085 c5) 1086 c6) 1087 c7).1 1082 = c2 := by rw [aI_off _ _ (by decide), aI_off _ _ (by decide), aI_off _ _ (by decide), aI_off _ _ (by decide), aI_off _ _ (by decide), aI1]
  have r3 : (aI (aI (aI (aI (aI (aI (aI g1 1081 fp) 1082 c2) 1083 c3) 1084 c4) 1085 c5) 1086 c6) 1087 c7).1 1083 = c3 := by rw [aI_off _ _ (by decide), aI_off _ _ (by decide), aI_off _ _ (by decide), aI_off _ _ (by decide), aI1]
  have r4 : (aI (aI (aI (aI (aI (aI (aI g1 1081 fp) 1082 c2) 1083 c3) 1084 c4) 1085 c5) 1086 c6) 1087 c7).1 1084 = c4 := by rw [aI_off _ _ (by decide), aI_off _ _ (by decide), aI_off _ _ (by decide), aI1]
  have r5 : (aI (aI (aI (aI (aI (aI (aI g1 1081 fp) 1082 c2) 1083 c3) 1084 c4) 1085 c5) 1086 c6) 1087 c7).1 1085 = c5 := by rw [aI_off _ _ (by decide), aI_off _ _ (by decide), aI1]
  have r6 : (aI (aI (aI (aI (aI (aI (aI g1 1081 fp) 1082 c2) 1083 c3) 1084 c4) 1085 c5) 1086 c6) 1087 c7).1 1086 = c6 := by rw [aI_off _ _ (by decide), aI1]
  have r7 : (aI (aI (aI (aI (aI (aI (aI g1 1081 fp) 1082 c2) 1083 c3) 1084 c4) 1085 c5) 1086 c6) 1087 c7).1 1087 = c7 := by rw [aI1]
  generalize aI (aI (aI (aI (aI (aI (aI g1 1081 fp) 1082 c2) 1083 c3) 1084 c4) 1085 c5) 1086 c6) 1087 c7 = g2 at *
  obtain ⟨h1, h2, h3, h5, h6⟩ := hm
  have G : ∀ b, b ∈ [1058, 1059, 1064, 1073, 1074, 1075, 1076] → g2.1 b = g.1 b := fun b hb => by
    have n6 : ¬ b = 1046 := by rintro rfl; exact absurd hb (by decide)
    rw [F2.1 b ((show ∀ b, b ∈ [1058, 1059, 1064, 1073, 1074, 1075, 1076] → ¬ b ∈ [1081, 1082, 1083, 1084, 1085, 1086, 1087] by decide) b hb) n6, F1.1 b (by simp) n6]
  have G1 : ∀ b, b ∈ [1058, 1059, 1064, 1073, 1074, 1075, 1076] → g1.1 b = g.1 b := fun b hb => by
    have n6 : ¬ b = 1046 := by rintro rfl; exact absurd hb (by decide)
    rw [F1.1 b (by simp) n6]
  have R : ∀ b, b ∈ [15, 24, 32, 33] → g2.1 1046 b = g.1 1046 b := fun b hb => by
    rw [F2.2.1 b (by simp), F1.2.1 b ((show ∀ b, b ∈ [15, 24, 32, 33] → ¬ b ∈ [4, 52, 53, 54] by decide) b hb)]
  refine H g2 ((mfr_fr (by decide) F1).trans (mfr_fr (by decide) F2)) ⟨mdr_fr F2 (by decide) (by decide) d1, ?_, ⟨?_, ?_, ?_⟩, ?_, by rw [R 24 (by decide)]; exact h6⟩
  · rw [R 32 (by decide), R 33 (by decide), G 1064 (by decide), G 1073 (by decide), G 1074 (by decide), G 1075 (by decide), G 1076 (by decide), G 1058 (by decide)]
    exact h2
  · rw [F2.2.1 52 (by simp)]; exact k52
  · rw [F2.2.1 53 (by simp), F2.2.1 54 (by simp), k53, k54, r2, r3, r4, r5, r6, r7]
    refine mbk_copy h4 ?_ ?_ ?_ ?_ ?_ ?_ h2
    · intro i hi; rw [e2 i hi, G1 1064 (by decide)]
    · intro i hi; rw [e3 i hi, G1 1073 (by decide)]
    · intro i hi; rw [e4 i hi, G1 1074 (by decide)]
    · intro i hi; rw [e5 i hi, G1 1075 (by decide)]
    · intro i hi; rw [e6 i hi, G1 1076 (by decide)]
    · intro i hi; rw [e7 i hi, G1 1058 (by decide)]
  · rw [r1]; exact mpg_pk d1 pf
  · unfold mtp
    rw [R 15 (by decide), G 1059 (by decide)]
    exact h5
end
