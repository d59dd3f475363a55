/-! what is asked goes on in the model, and is put back -/
def sim (g0 : hG) (x : sX) (f : Nat → Int32) (g1 : hG) (zs : Nat → sZ) (t : Nat) : Prop := (mdr g0 x ∧ pk f 0 g0 ∧ g0.1 1046 4 = 0) ∧ (fr qL qF g0 g1 ∧ g1.1 1070 = f ∧ g1.1 1046 4 = 0) ∧ ms g1 x.1 zs ∧ mrls g1 x.2.2.2.1 x.2.2.2.2.1 ∧ mst g1 x.2.2.1 ∧ g1.1 1046 31 = nI t ∧ t ≤ 2000
section
variable {d : Nat} {k : Int32 → hG → hE → Prop} {kv : hG → hE → Prop} {X : Nat → hG → hE → Prop} {g g0 g1 : hG} {e : hE} {x : sX} {f : Nat → Int32} {zs : Nat → sZ} {t z : Nat} {s : sZ}
theorem sim_begin (hm : mdr g x) (hc : g.1 1046 4 = 0) (H : ∀ f, sim g x f (aI g 1070 f) x.2.1 x.2.2.2.2.2 → kv (aI g 1070 f) e) : hcv (d + 1) 249 [.ref 1046, .ref 1070, .int 0] g e kv X := by
  refine cm_pack (o := 0) (show hT 1070 = some (.inl (0, 137)) from rfl) (by decide) (by decide) (by decide) (fun f pf _ => H f ?_)
  have mA : mdr (aI g 1070 f) x := mdr_fr (L := [1070]) (F := []) (fr_aI (by decide) (by decide)) (by decide) (by decide) hm
  refine ⟨⟨hm, pf, hc⟩, ⟨fr_aI (by decide) (by decide), aI1 _ _ _, ?_⟩, mA.1, mA.2.1, mA.2.2.1, mA.2.2.2.1, by have := mA.2.2.2.2; omega⟩
  rw [aI_off _ _ (by decide)]
  exact hc
theorem sim_end (hs : sim g0 x f g1 zs t) (H : ∀ g', fr qL qF g0 g' → mdr g' x → g'.1 1046 4 = 0 → fr uL [31] g1 g' → kv g' e) : hcv (d + 1) 250 [.ref 1046, .ref 1070, .int 0] g1 e kv X := by
  obtain ⟨⟨a1, a2, a3⟩, ⟨b1, b2, b3⟩, -⟩ := hs
  refine cm_put (x := x) (g := g0) (L := qL) (F := qF) a1 a2 b1 b2 (by decide) (by decide) (by decide) (fun g4 f4 m4 _ u4 => H g4 f4 m4 ?_ u4)
  rw [u4.2.1 4 (by decide)]
  exact b3
theorem sim_go1 (hs : sim g0 x f g1 zs t) (ht : t < 2000) (H : ∀ g2, sim g0 x f g2 (fun z => (xd x t (zs z)).1) (t + 1) → (∀ z, z < x.1 → g2.1 1067 z = (xd x t (zs z)).2.1 ∧ g2.1 1068 z = (xd x t (zs z)).2.2.1 ∧ g2.1 1069 z = g1.1 1069 z + jbc (xd x t (zs z)).2.1) → fr dL [31] g1 g2 → kv g2 e) : hcv (d + 6) 265 [.ref 1046, .int 1] g1 e kv X := by
  obtain ⟨a, ⟨b1, b2, b3⟩, c1, c2, c3, c4, c5⟩ := hs
  refine cm_go1 c1 c2 c3 c4 (by omega) (fun g2 f2 m2 t2 => H g2 ⟨a, ⟨b1.trans (f2.sub (by decide) (by decide)), by rw [f2.1 1070 (by decide) (by decide)]; exact b2, by rw [f2.2.1 4 (by decide)]; exact b3⟩, ms_mx f2 (by decide) c1 m2 (fun z hz => sok_day (c1.2 z hz).2), mrls_fr f2 (by decide) (by decide) (by decide) c2, mst_fr f2 (by decide) (by decide) c3, t2, by omega⟩ (fun z hz => (m2 z hz).2) f2)
theorem sim_goOn {n : Nat} (hs : sim g0 x f g1 zs t) (ht : t + n ≤ 2000) (H : ∀ g2, sim g0 x f g2 (fun z => xgo x n t (zs z)) (t + n) → (∀ z, z < x.1 → g2.1 1069 z = g1.1 1069 z + xbn x n t (zs z)) → fr dL [31] g1 g2 → kv g2 e) : hcv (d + 6) 265 [.ref 1046, .int (nI n)] g1 e kv X := by
  obtain ⟨a, ⟨b1, b2, b3⟩, c1, c2, c3, c4, c5⟩ := hs
  refine cm_goOn (by omega) c1 c2 c3 c4 (by omega) (fun g2 f2 m2 bb t2 => H g2 ⟨a, ⟨b1.trans (f2.sub (by decide) (by decide)), by rw [f2.1 1070 (by decide) (by decide)]; exact b2, by rw [f2.2.1 4 (by decide)]; exact b3⟩, m2, mrls_fr f2 (by decide) (by decide) (by decide) c2, mst_fr f2 (by decide) (by decide) c3, t2, ht⟩ bb f2)
theorem sim_fr {L : List Nat} {g2 : hG} (hs : sim g0 x f g1 zs t) (hf : fr L [] g1 g2) (h1 : ∀ b, b ∈ L → b ∈ [1065, 1066, 1067, 1068, 1069, 1071, 1072, 1077, 1078, 1079, 1080]) : sim g0 x f g2 zs t := by
  obtain ⟨a, ⟨b1, b2, b3⟩, c1, c2, c3, c4, c5⟩ := hs
  have nl : ∀ b, ¬ b ∈ [1065, 1066, 1067, 1068, 1069, 1071, 1072, 1077, 1078, 1079, 1080] → ¬ b ∈ L := fun b h z => h (h1 b z)
  have q : ∀ b, ¬ b ∈ [1065, 1066, 1067, 1068, 1069, 1071, 1072, 1077, 1078, 1079, 1080] → ¬ b = 1046 → g2.1 b = g1.1 b := fun b h hn => hf.1 b (nl b h) hn
  have sub : ∀ b, b ∈ [1065, 1066, 1067, 1068, 1069, 1071, 1072, 1077, 1078, 1079, 1080] → b ∈ qL := by decide
  refine ⟨a, ⟨b1.trans (hf.sub (fun b hb => sub b (h1 b hb)) (by decide)), by rw [q 1070 (by decide) (by decide)]; exact b2, by rw [hf.2.1 4 (by decide)]; exact b3⟩, ⟨⟨by rw [q 1050 (by decide) (by decide)]; exact c1.1.1, c1.1.2⟩, fun z hz => ⟨mz_cg (c1.2 z hz).1 (q _ (by decide) (by decide)) (q _ (by decide) (by decide)) (q _ (by decide) (by decide)) (q _ (by decide) (by decide)) (q _ (by decide) (by decide)) (q _ (by decide) (by decide)), (c1.2 z hz).2⟩⟩, mrls_fr hf (nl _ (by decide)) (nl _ (by decide)) (nl _ (by decide)) c2, mst_fr hf (nl _ (by decide)) (nl _ (by decide)) c3, by rw [hf.2.1 31 (by decide)]; exact c4, c5⟩
theorem cm_holding (hz4 : z < 4) (hm : mz g z s) (hs : sok s) (H : k (shb s s.1) g e) : hci (d + 3) 252 [.ref 1046, .int (nI z)] g e k X := by
  have hn := hs.1.2
  have ez : (nI z).toNatClampNeg = z := nI_clamp (by omega)
  refine zh_X8_holding ?_
  refine hdown (W := fun p => hwi (d + 2) zm_X8_holding k X 4 [(0, .ref 1046), (1, .int (nI z)), (2, .int (shb s p)), (3, .int (nI p))] g e) (n := s.1) ?_ ?_ 0 (Nat.zero_le _)
  · exact zh_X8_holding_4 ⟨nI_in (by omega) (by omega), zbr_t (by rw [ez, hm.1]; exact nI_le (Nat.le_refl _) (by omega)) H⟩
  · intro p hp W
    rw [nI_succ] at W
    refine zh_X8_holding_4 ⟨nI_in (by omega) (by omega), zbr_f (by rw [ez, hm.1]; exact nI_ge hp (by omega)) (cm_holdOf hz4 hm hs (by omega) ?_)⟩
    have a1 := hs.2.2.1 p
    have hsh : sh s p ≤ 9 := by unfold sh; omega
    unfold shb at W
    by_cases c : sh s p = 0
    · rw [if_pos c] at W
      rw [c]
      refine zbr_t (by decide) ?_
      rw [show shb s p ||| 0 = shb s p from Int32.or_zero]
      exact W
    · rw [if_neg c] at W
      exact zbr_f (nI_nle (by omega) (by omega)) W
theorem cm_slideTo (hz4 : z < 4) (hm : mz g z s) (hs : sok s) {h : Nat} (hh : h ≤ s.1) (H : kv (sI (sI g 1062 z (nI h)) 1063 z (sslide s h).2.2.2.2.1) e) : hcv (d + 4) 253 [.ref 1046, .int (nI z), .int (nI h)] g e kv X := by
  have ez : (nI z).toNatClampNeg = z := nI_clamp (by omega)
  refine zh_X8_slideTo ⟨nI_in (by omega) (by omega), ?_⟩
  rw [ez]
  refine cm_holding (s := (s.1, s.2.1, s.2.2.1, s.2.2.2.1, s.2.2.2.2.1, h)) hz4 ⟨hm.1, hm.2.1, hm.2.2.1, hm.2.2.2.1, hm.2.2.2.2.1, by rw [sI_at, upd_at]⟩ ⟨hs.1, hs.2.1, hs.2.2.1, hs.2.2.2.1, hs.2.2.2.2.1, hs.2.2.2.2.2.1, hh⟩ ⟨nI_in (by omega) (by omega), ?_⟩
  have : ∀ p, shb (s.1, s.2.1, s.2.2.1, s.2.2.2.1, s.2.2.2.2.1, h) p = shb s p := by
    intro p
    induction p with
    | zero => rfl
    | succ p ih => unfold shb; rw [ih]; rfl
  rw [this]
  exact H
theorem mz_slide {g1 : hG} {h : Nat} (hm : mz g1 z s) : mz (sI (sI g1 1062 z (nI h)) 1063 z (sslide s h).2.2.2.2.1) z (sslide s h) := by
  refine ⟨hm.1, hm.2.1, hm.2.2.1, hm.2.2.2.1, ?_, ?_⟩
  · show upd (g1.1 1063) z _ z = _
    rw [upd_at]
  · show upd (g1.1 1062) z _ z = _
    rw [upd_at]
    rfl
theorem mz_slide_off {g1 : hG} {z' : Nat} {s' : sZ} {v w : Int32} (hne : ¬ z' = z) (hm : mz g1 z' s') : mz (sI (sI g1 1062 z v) 1063 z w) z' s' := by
  refine ⟨hm.1, hm.2.1, hm.2.2.1, hm.2.2.2.1, ?_, ?_⟩
  · show upd (g1.1 1063) z _ z' = _
    rw [upd_off _ _ hne]
    exact hm.2.2.2.2.1
  · show upd (g1.1 1062) z _ z' = _
    rw [upd_off _ _ hne]
    exact hm.2.2.2.2.2
theorem ms_slide {nz : Nat} {h : Nat} (hm : ms g1 nz zs) (hz : z < nz) (hh : h ≤ (zs z).1) : ms (sI (sI g1 1062 z (nI h)) 1063 z (sslide (zs z) h).2.2.2.2.1) nz (va_up zs z (sslide (zs z) h)) := by
  refine ⟨hm.1, fun z' hz' => ?_⟩
  by_cases c : z' = z
  · subst c
    rw [va_up_at]
    exact ⟨mz_slide (hm.2 z' hz').1, sok_slide (hm.2 z' hz').2 hh⟩
  · rw [va_up_off _ _ c]
    exact ⟨mz_slide_off c (hm.2 z' hz').1, (hm.2 z' hz').2⟩
theorem sim_slide {h : Nat} (hs : sim g0 x f g1 zs t) (hz : z < x.1) (hh : h ≤ (zs z).1) (H : ∀ g2, sim g0 x f g2 (va_up zs z (sslide (zs z) h)) t → fr [1062, 1063] [] g1 g2 → kv g2 e) : hcv (d + 4) 253 [.ref 1046, .int (nI z), .int (nI h)] g1 e kv X := by
  obtain ⟨a, ⟨b1, b2, b3⟩, c1, c2, c3, c4, c5⟩ := hs
  have h4 := c1.1.2
  have f2 : fr [1062, 1063] [] g1 (sI (sI g1 1062 z (nI h)) 1063 z (sslide (zs z) h).2.2.2.2.1) := (fr.refl.I (by decide) (by decide)).I (by decide) (by decide)
  refine cm_slideTo (by omega) (c1.2 z hz).1 (c1.2 z hz).2 hh (H _ ⟨a, ⟨b1.trans (f2.sub (by decide) (by decide)), b2, b3⟩, ms_slide c1 hz hh, c2, c3, c4, c5⟩ f2)
end
