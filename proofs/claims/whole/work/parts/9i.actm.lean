/-! ACTS in the model -/
abbrev aL : List Nat := [1060, 1061, 1062, 1063, 1065, 1066, 1067, 1068, 1069]
section
variable {d : Nat} {k : Int32 → hG → hE → Prop} {kv : hG → hE → Prop} {X : Nat → hG → hE → Prop} {g : hG} {e : hE} {x : sX} {s : sS}
theorem RM_code {c : Int32} (h : RM g s) : RM (sI g 1046 4 c) s := RM_rest (L := []) (F := [4]) (fr_fld (by decide)) (by decide) (by decide) (mdr_code h.1) h
theorem mfr_code {c : Int32} : mfr g (sI g 1046 4 c) := mfr_fr (L := []) (F := [4]) (by decide) (fr_fld (by decide))
theorem pg_nowM (hm : mdr g x) : pgok x (xnow x) := ⟨fun z hz => ⟨(hm.1.2 z hz).2, rfl, rfl⟩, hm.2.2.2.2⟩
theorem mpg_pk {f : Nat → Int32} {o : Nat} (hm : mdr g x) (h : pk f o g) : mpg f o x (xnow x) := by
  have h4 := hm.1.1.2
  refine ⟨pg_nowM hm, by rw [h.1]; exact hm.2.2.2.1, fun z hz => ?_⟩
  obtain ⟨m1, m2, m3, m4, m5, m6⟩ := (hm.1.2 z hz).1
  refine ⟨by rw [(h.2.1 z (by omega)).1]; exact m6, by rw [(h.2.1 z (by omega)).2]; exact m5, fun p hp => ⟨?_, ?_⟩⟩
  · rw [(h.2.2 (16 * z + p) (by omega)).1]; exact m3 p hp
  · rw [(h.2.2 (16 * z + p) (by omega)).2]; exact m4 p hp
theorem mdr_un {g' : hG} {f : Nat → Int32} {o : Nat} {P : sP} (hm : mdr g x) (hf : fr uL [31] g g') (h : pk f o g') (hp : mpg f o x P) : mdr g' (xpg x P) := by
  have h4 := hm.1.1.2
  obtain ⟨p1, p2, p3⟩ := hp
  refine ⟨⟨⟨by rw [hf.1 1050 (by decide) (by decide)]; exact hm.1.1.1, h4⟩, fun z hz => ?_⟩, mrls_fr hf (by decide) (by decide) (by decide) hm.2.1, mst_fr hf (by decide) (by decide) hm.2.2.1, by rw [← h.1]; exact p2, p1.2⟩
  have hz' : z < x.1 := hz
  obtain ⟨q1, q2, q3⟩ := p3 z hz
  obtain ⟨k1, k2, k3⟩ := p1.1 z hz
  obtain ⟨m1, m2, -⟩ := (hm.1.2 z hz).1
  refine ⟨⟨?_, ?_, fun p hp => ?_, fun p hp => ?_, ?_, ?_⟩, k1⟩
  · show _ = nI (P.1 z).1
    rw [hf.1 1052 (by decide) (by decide), k2]; exact m1
  · show _ = nI (P.1 z).2.1
    rw [hf.1 1051 (by decide) (by decide), k3]; exact m2
  · rw [← (h.2.2 (16 * z + p) (by omega)).1]; exact (q3 p hp).1
  · rw [← (h.2.2 (16 * z + p) (by omega)).2]; exact (q3 p hp).2
  · rw [← (h.2.1 z (by omega)).2]; exact q2
  · rw [← (h.2.1 z (by omega)).1]; exact q1
theorem mpg_cg {f f' : Nat → Int32} {o o' : Nat} {P : sP} (h : ∀ i, i < 137 → f' (o' + i) = f (o + i)) (h4 : x.1 ≤ 4) (hp : mpg f o x P) : mpg f' o' x P := by
  obtain ⟨a, b, c⟩ := hp
  refine ⟨a, by have := h 0 (by omega); rw [Nat.add_zero, Nat.add_zero] at this; rw [this]; exact b, fun z hz => ?_⟩
  obtain ⟨b1, b2, b3⟩ := c z hz
  have e1 := h (1 + z) (by omega)
  have e2 := h (5 + z) (by omega)
  rw [← Nat.add_assoc, ← Nat.add_assoc] at e1 e2
  refine ⟨by rw [e1]; exact b1, by rw [e2]; exact b2, fun p hp => ?_⟩
  have e3 := h (9 + 2 * (16 * z + p)) (by omega)
  have e4 := h (10 + 2 * (16 * z + p)) (by omega)
  rw [← Nat.add_assoc, ← Nat.add_assoc] at e3 e4
  rw [e3, e4]
  exact b3 p hp
theorem cmk_keep (hm : mdr g x) {as : List sP} (ha : mac (g.1 1064) (g.1 1046 32) x as) (H : ∀ g', fr [1064] [32] g g' → mac (g'.1 1064) (g'.1 1046 32) x (akeep x as) → mdr g' x → kv g' e) : hcv (d + 2) 278 [.ref 1046] g e kv X := by
  have h4 := hm.1.1.2
  obtain ⟨a1, a2, a3⟩ := ha
  have main : ∀ (as : List sP) (g1 : hG), fr [1064] [32] g g1 → as.length < 40 → g1.1 1046 32 = nI as.length → (∀ i P, as[i]? = some P → mpg (g1.1 1064) (137 * i) x P) → (∀ g', fr [1064] [32] g g' → mac (g'.1 1064) (g'.1 1046 32) x (as ++ [xnow x]) → mdr g' x → kv g' e) → hwv (d + 1) zm_X8_keep kv X 54 [(0, .ref 1046)] g1 e := by
    intro as g1 f1 l1 n1 A H
    have m1 : mdr g1 x := mdr_fr f1 (by decide) (by decide) hm
    refine zh_X8_keep_54 ?_
    rw [n1, show (137 : Int32) = nI 137 from rfl, pk_mul]
    refine cm_pack (a := 1064) (n := 5480) rfl (by decide) (by omega) (by decide) (fun f pf of => ?_)
    have f2 : fr [1064] [32] g (aI g1 1064 f) := f1.trans (fr_aI (by decide) (by decide))
    refine H _ (f2.F (by decide)) ?_ (mdr_fr (f2.F (by decide)) (by decide) (by decide) hm)
    rw [sI_off _ (by decide), aI1, sI_at, upd_at, aI_off _ _ (by decide), n1, nI_1]
    refine ⟨by rw [List.length_append]; rfl, by rw [List.length_append]; show as.length + 1 ≤ 40; omega, fun i P hi => ?_⟩
    by_cases c : i < as.length
    · rw [List.getElem?_append_left c] at hi
      exact mpg_cg (fun j hj => of _ (by omega)) h4 (A i P hi)
    · rw [List.getElem?_append_right (by omega)] at hi
      have : i - as.length < 1 := (List.getElem?_eq_some_iff.mp hi).1
      have e : i = as.length := by omega
      subst e
      rw [Nat.sub_self] at hi
      rw [← Option.some.inj hi]
      exact mpg_pk m1 pf
  refine zh_X8_keep ?_
  rw [a1]
  by_cases c : as.length = 40
  · refine zbr_t (by rw [c]; rfl) ?_
    obtain ⟨f, hf⟩ : ∃ f, f = g.1 1064 := ⟨_, rfl⟩
    have shift : ∀ m, m ≤ 5343 → hwv (d + 1) zm_X8_keep kv X 13 [(0, .ref 1046), (1, .int (nI (137 + m)))] (aI g 1064 (fun j => if j < m then f (j + 137) else f j)) e := by
      refine hdown ?_ ?_
      · refine zh_X8_keep_13 (zbr_t (nI_le (by omega) (by omega)) ?_)
        rw [aI_off _ _ (by decide), a1, c, show nI 40 - 1 = nI 39 from rfl]
        refine main (as.drop 1) _ ((fr_aI (by decide) (by decide)).F (by decide)) (by rw [List.length_drop]; omega) (by rw [sI_at, upd_at, List.length_drop, c]) (fun i P hi => ?_) ?_
        · have hl := (List.getElem?_eq_some_iff.mp hi).1
          rw [List.length_drop, c] at hl
          rw [List.getElem?_drop, Nat.add_comm] at hi
          rw [sI_off _ (by decide), aI1]
          refine mpg_cg (fun j hj => ?_) h4 (a3 (i + 1) P hi)
          show (if 137 * i + j < 5343 then f (137 * i + j + 137) else f (137 * i + j)) = _
          rw [if_pos (by omega), hf, show 137 * i + j + 137 = 137 * (i + 1) + j by omega]
        · unfold akeep at H
          rw [if_pos c] at H
          exact H
      · intro m hm' W
        refine zh_X8_keep_13 (zbr_f (nI_ge (by omega) (by omega)) ⟨nI_in (by omega) (by omega), ?_⟩)
        rw [show nI (137 + m) - 137 = nI m from nI_subR 137 m, nI_clamp (show 137 + m < 2 ^ 31 by omega), nI_clamp (show m < 2 ^ 31 by omega), aI1, sI_aI, nI_1]
        refine ⟨nI_in (by omega) (by omega), ?_⟩
        have e1 : upd (fun j => if j < m then f (j + 137) else f j) m (if 137 + m < m then f (137 + m + 137) else f (137 + m)) = (fun j => if j < m + 1 then f (j + 137) else f j) := by
          funext j
          by_cases cj : j = m
          · subst cj
            rw [upd_at, if_neg (by omega), if_pos (by omega), Nat.add_comm]
          · rw [upd_off _ _ cj]
            by_cases q : j < m
            · rw [if_pos q, if_pos (by omega)]
            · rw [if_neg q, if_neg (by omega)]
        rw [e1]
        exact W
    have := shift 0 (by omega)
    rw [show (fun j => if j < 0 then f (j + 137) else f j) = g.1 1064 by
      funext j
      rw [if_neg (by omega), hf], aI_id] at this
    exact this
  · refine zbr_f (fun q => c ((nI_eq (b := 40) (by omega) (by omega)).mp q)) (main as g fr.refl (by omega) a1 a3 ?_)
    unfold akeep at H
    rw [if_neg c] at H
    exact H
theorem RM_act {g1 g2 : hG} {P : sP} (h : RM g s) (f1 : fr [1064] [32] g g1) (a1 : mac (g1.1 1064) (g1.1 1046 32) s.1 (akeep s.1 s.2.1.1)) (f2 : fr aL [31] g1 g2) (d2 : mdr g2 (xpg s.1 P)) (hp : pgok s.1 P) : RM g2 (s_act s P) ∧ mfr g g2 ∧ g2.1 1046 4 = g.1 1046 4 := by
  obtain ⟨h1, h2, h3, h4, h5⟩ := h
  have st := stt_pg hp
  have q : ∀ b, b ∈ [1058, 1059, 1073, 1074, 1075, 1076, 1081, 1082, 1083, 1084, 1085, 1086, 1087] → g2.1 b = g.1 b := fun b hb => by
    have n6 : ¬ b = 1046 := by rintro rfl; exact absurd hb (by decide)
    rw [f2.1 b ((show ∀ b, b ∈ [1058, 1059, 1073, 1074, 1075, 1076, 1081, 1082, 1083, 1084, 1085, 1086, 1087] → ¬ b ∈ aL by decide) b hb) n6, f1.1 b ((show ∀ b, b ∈ [1058, 1059, 1073, 1074, 1075, 1076, 1081, 1082, 1083, 1084, 1085, 1086, 1087] → ¬ b ∈ [1064] by decide) b hb) n6]
  have r : ∀ b, b ∈ [4, 15, 24, 33, 52, 53, 54] → g2.1 1046 b = g.1 1046 b := fun b hb => by
    rw [f2.2.1 b ((show ∀ b, b ∈ [4, 15, 24, 33, 52, 53, 54] → ¬ b ∈ [31] by decide) b hb), f1.2.1 b ((show ∀ b, b ∈ [4, 15, 24, 33, 52, 53, 54] → ¬ b ∈ [32] by decide) b hb)]
  refine ⟨⟨d2, mbk_st st ⟨?_, ⟨?_, h2.2.1.2⟩, fun j hj => ?_⟩, mkp_st st (mkp_cg (r 52 (by decide)) (r 53 (by decide)) (r 54 (by decide)) (fun b hb hb' => q b ?_) h3), ?_, by rw [r 24 (by decide)]; exact h5⟩, (mfr_fr (by decide) f1).trans (mfr_fr (by decide) f2), r 4 (by decide)⟩
  · rw [f2.1 1064 (by decide) (by decide), f2.2.1 32 (by decide)]
    exact a1
  · rw [r 33 (by decide), q 1073 (by decide), q 1074 (by decide), q 1075 (by decide), q 1076 (by decide)]
    exact h2.2.1.1
  · rw [q 1058 (by decide)]; exact h2.2.2 j hj
  · simp only [List.mem_cons, List.not_mem_nil, or_false]
    omega
  · unfold mtp
    rw [r 15 (by decide), q 1059 (by decide)]
    exact h4
theorem RM_ref {j : Nat} (h : RM g s) (hj : j < 3) : RM (sI g 1058 j (g.1 1058 j + 1)) (s_ref s j) := by
  obtain ⟨h1, h2, h3, h4, h5⟩ := h
  have q : ∀ b, ¬ b = 1058 → (sI g 1058 j (g.1 1058 j + 1)).1 b = g.1 b := fun b hb => sI_off _ hb
  refine ⟨mdr_fr (L := [1058]) (F := []) (fr.refl.I (by decide) (by decide)) (by decide) (by decide) h1, ⟨?_, ⟨?_, h2.2.1.2⟩, fun i hi => ?_⟩, mkp_cg (by rw [q 1046 (by omega)]) (by rw [q 1046 (by omega)]) (by rw [q 1046 (by omega)]) (fun b hb hb' => q b (by omega)) h3, ?_, by rw [q 1046 (by omega)]; exact h5⟩
  · rw [q 1064 (by omega), q 1046 (by omega)]; exact h2.1
  · rw [q 1046 (by omega), q 1073 (by omega), q 1074 (by omega), q 1075 (by omega), q 1076 (by omega)]
    exact h2.2.1.1
  · show _ = va_up s.2.1.2.2 j (s.2.1.2.2 j + 1) i
    rw [sI_at]
    by_cases c : i = j
    · subst c
      rw [upd_at, va_up_at, h2.2.2 i hi]
    · rw [upd_off _ _ c, va_up_off _ _ c, h2.2.2 i hi]
  · unfold mtp
    rw [q 1046 (by omega), q 1059 (by omega)]
    exact h4
theorem cm_refuse {j : Nat} (hj : j < 3) (H : k (-1) (sI g 1058 j (g.1 1058 j + 1)) e) : hci (d + 1) 277 [.ref 1046, .int (nI j)] g e k X := by
  refine zh_X8_refuse ⟨nI_in hj (by omega), nI_in hj (by omega), ?_⟩
  rw [nI_clamp (by omega)]
  exact H
/-- the code stays, the state is so: what is left to say -/
theorem ms_days (hm : RM g s) {n : Int32} (H : ∀ g' u, mfr g g' → RM g' (r_days s n).2 → om c12 (r_days s n).1 u g' → k u g' e) : hci (d + 8) 279 [.ref 1046, .int n] g e k X := by
  have m0 : RM (sI g 1046 4 0) s := RM_code hm
  have f0 : mfr g (sI g 1046 4 0) := mfr_code
  have k0 : (sI g 1046 4 0).1 1046 4 = 0 := code_at
  have h9 := hm.1.2.2.2.2
  refine zh_X8_days ?_
  generalize sI g 1046 4 0 = g0 at *
  have bad : (r_days s n = (.inl (-1), s_ref s 1)) → hci (d + 7) 277 [.ref 1046, .int 1] g0 e (fun u g' e => k u g' e) X := by
    intro h
    rw [h] at H
    refine cm_refuse (j := 1) (by omega) (H _ _ (f0.trans (mfr_fr (L := [1058]) (F := []) (by decide) (fr.refl.I (by decide) (by decide)))) (RM_ref m0 (by omega)) ⟨rfl, ?_⟩)
    rw [sI_off _ (by decide)]; exact k0
  refine cm_isInR (a := 1) (b := 20) (by omega) (by omega) (by decide) (by decide) (fun m m1 m2 hn => zbr_f (by decide) ?_) (fun h => zbr_t rfl (bad (r_days_n (.inl h) h9)))
  subst hn
  rw [m0.1.2.2.2.1, nI_add, show (999 : Int32) = nI 999 from rfl]
  refine ⟨fun c => cmk_keep m0.1 m0.2.1.1 (fun g1 f1 a1 d1 => ?_), fun c => bad (r_days_n (.inr ⟨m, m2, rfl, Nat.lt_of_not_le (fun z => c (nI_le z (by omega)))⟩) h9)⟩
  have le : s.1.2.2.2.2.2 + m ≤ 999 := (nI_leI (by omega) (by omega)).mp c
  rw [r_days_y m1 m2 le] at H
  refine cm_goOn (by omega) d1.1 d1.2.1 d1.2.2.1 d1.2.2.2.1 (by omega) (fun g2 f2 z2 _ t2 => ?_)
  have hp : pgok s.1 (fun z => xgo s.1 m s.1.2.2.2.2.2 (s.1.2.1 z), s.1.2.2.2.2.2 + m) := by
    refine ⟨fun z hz => ⟨(z2.2 z hz).2, ?_⟩, le⟩
    have : ∀ (n t : Nat) (s' : sZ), (sgo s.1.2.2.2.1 s.1.2.2.2.2.1 s.1.2.2.1 n t s').1 = s'.1 ∧ (sgo s.1.2.2.2.1 s.1.2.2.2.2.1 s.1.2.2.1 n t s').2.1 = s'.2.1 := by
      intro n
      induction n with
      | zero => intro t s'; exact ⟨rfl, rfl⟩
      | succ n ih =>
        intro t s'
        obtain ⟨a, b⟩ := ih (t + 1) (sd1 s.1.2.2.2.1 s.1.2.2.2.2.1 s.1.2.2.1 t s').1
        exact ⟨a.trans (sdk_n _ _), b.trans (sdk_keep _ _).1⟩
    exact this _ _ _
  obtain ⟨r1, r2, r3⟩ := RM_act m0 f1 a1 (f2.sub (by decide) (by decide)) (P := (fun z => xgo s.1 m s.1.2.2.2.2.2 (s.1.2.1 z), s.1.2.2.2.2.2 + m)) ⟨z2, mrls_fr f2 (by decide) (by decide) (by decide) d1.2.1, mst_fr f2 (by decide) (by decide) d1.2.2.1, t2, le⟩ hp
  rw [t2]
  exact H _ _ (f0.trans r2) r1 ⟨rfl, by rw [r3]; exact k0⟩
theorem ms_slideA (hm : RM g s) {z h : Int32} (H : ∀ g' u, mfr g g' → RM g' (r_slide s z h).2 → om c12 (r_slide s z h).1 u g' → k u g' e) : hci (d + 8) 280 [.ref 1046, .int z, .int h] g e k X := by
  have m0 : RM (sI g 1046 4 0) s := RM_code hm
  have f0 : mfr g (sI g 1046 4 0) := mfr_code
  have k0 : (sI g 1046 4 0).1 1046 4 = 0 := code_at
  have h4 := hm.1.1.1.2
  refine zh_X8_slide ?_
  generalize sI g 1046 4 0 = g0 at *
  refine cm_isZip m0.1.1.1.1 h4 (fun i hi hz => zbr_f (by decide) ?_) (fun q => zbr_t rfl (cm_fail ?_))
  case refine_2 =>
    have e1 : r_slide s z h = (.inr 1, s) := by unfold r_slide; rw [iszb_f (by omega) q]; rfl
    rw [e1] at H
    exact H _ _ (f0.trans mfr_code) (RM_code m0) code_at
  subst hz
  have zi := m0.1.1.2 i hi
  have n2 := zi.2.1.2
  have ei : (nI i).toNatClampNeg = i := nI_clamp (by omega)
  rw [ei, zi.1.1]
  refine ⟨nI_in (by omega) (by omega), cm_isInR (a := 0) (b := (s.1.2.1 i).1) (by omega) (by omega) (by decide) rfl (fun m _ m2 hn => zbr_f (by decide) ?_) (fun q => zbr_t rfl ?_)⟩
  · subst hn
    have e1 : r_slide s (nI i) (nI m) = (.inl (jbc (sslide (s.1.2.1 i) m).2.2.2.2.1), s_act s (va_up s.1.2.1 i (sslide (s.1.2.1 i) m), s.1.2.2.2.2.2)) := by
      unfold r_slide
      rw [iszb_t (by omega) hi, ei, isrb_t (by omega) (by omega) m2, nI_clamp (show m < 2 ^ 31 by omega)]
      rfl
    rw [e1] at H
    refine cmk_keep m0.1 m0.2.1.1 (fun g1 f1 a1 d1 => ?_)
    refine cm_slideTo (by omega) (d1.1.2 i hi).1 (d1.1.2 i hi).2 m2 ⟨nI_in (by omega) (by omega), ?_⟩
    have f2 : fr aL [31] g1 (sI (sI g1 1062 i (nI m)) 1063 i (sslide (s.1.2.1 i) m).2.2.2.2.1) := (fr.refl.I (by decide) (by decide)).I (by decide) (by decide)
    have z2 := ms_slide d1.1 hi m2
    obtain ⟨r1, r2, r3⟩ := RM_act m0 f1 a1 f2 (P := (va_up s.1.2.1 i (sslide (s.1.2.1 i) m), s.1.2.2.2.2.2)) ⟨z2, mrls_fr f2 (by decide) (by decide) (by decide) d1.2.1, mst_fr f2 (by decide) (by decide) d1.2.2.1, by rw [sI_off _ (by decide), sI_off _ (by decide)]; exact d1.2.2.2.1, d1.2.2.2.2⟩ (pg_up (pg_nowM m0.1) (sok_slide zi.2 m2) rfl rfl)
    rw [sI_at, upd_at]
    exact cm_bitsC (sok_C (sok_slide zi.2 m2)) (H _ _ (f0.trans r2) r1 ⟨rfl, by rw [r3]; exact k0⟩)
  · have e1 : r_slide s (nI i) h = (.inl (-1), s_ref s 1) := by
      unfold r_slide
      rw [iszb_t (by omega) hi, ei, isrb_f (by omega) (by omega) q]
      rfl
    rw [e1] at H
    refine cm_refuse (j := 1) (by omega) (H _ _ (f0.trans (mfr_fr (L := [1058]) (F := []) (by decide) (fr.refl.I (by decide) (by decide)))) (RM_ref m0 (by omega)) ⟨rfl, ?_⟩)
    rw [sI_off _ (by decide)]; exact k0
end
