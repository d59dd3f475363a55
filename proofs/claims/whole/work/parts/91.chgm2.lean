theorem imx_m1 : ∀ v, v ≤ 9 → imx 0 (nI v - 1) = nI (v - 1) := by decide +kernel
section
variable {d : Nat} {k : Int32 → hG → hE → Prop} {kv : hG → hE → Prop} {X : Nat → hG → hE → Prop} {g g0 g1 : hG} {e : hE} {D : Nat} {x : sX} {f : Nat → Int32} {zs : Nat → sZ} {t i p : Nat}
theorem sim_p0F (hs : sim g0 x f g1 zs t) (hi : i < x.1) (hp : p < (zs i).1) (H : ∀ g2, sim g0 x f g2 (va_up zs i (sp0 (zs i) p)) t → fr [1060, 1061, 1063] [] g1 g2 → kv g2 e) : hcv (d + 1) 313 [.ref 1060, .int (nI (16 * i + p))] g1 e kv X := by
  have h4 := hs.2.2.1.1.2
  obtain ⟨mz, ok⟩ := hs.2.2.1.2 i hi
  have n := ok.1.2
  have l := ok.2.2.1 p
  have h64 : hin (nI (16 * i + p)) 64 := nI_in (by omega) (by omega)
  refine zh_X8_pinchIfMay (np0 := 64) rfl ⟨h64, ?_⟩
  rw [nI_clamp (by omega), mz.2.2.1 p (by omega)]
  unfold sp0 at H
  by_cases c : 0 < (zs i).2.2.1 p ∧ (zs i).2.2.1 p < 9
  · rw [if_pos c] at H
    refine zbr_f (nI_ge (a := 0) c.1 (by omega)) ⟨h64, zbr_f (nI_ge (b := 9) c.2 (by omega)) ⟨h64, h64, ?_⟩⟩
    rw [nI_1]
    exact H _ (sim_L hs hi hp (by omega) (by omega)) (fr.refl.I (by decide) (by decide))
  · rw [if_neg c, va_up_id] at H
    by_cases c0 : 0 < (zs i).2.2.1 p
    · exact zbr_f (nI_ge (a := 0) c0 (by omega)) ⟨h64, zbr_t (nI_le (a := 9) (by omega) (by omega)) (H _ hs fr.refl)⟩
    · exact zbr_t (by rw [show (zs i).2.2.1 p = 0 by omega]; decide) (H _ hs fr.refl)
theorem sim_p1F (hs : sim g0 x f g1 zs t) (hi : i < x.1) (hp : p < (zs i).1) (H : ∀ g2, sim g0 x f g2 (va_up zs i (sp1 (zs i) p)) t → fr [1060, 1061, 1063] [] g1 g2 → kv g2 e) : hcv (d + 1) 313 [.ref 1061, .int (nI (16 * i + p))] g1 e kv X := by
  have h4 := hs.2.2.1.1.2
  obtain ⟨mz, ok⟩ := hs.2.2.1.2 i hi
  have n := ok.1.2
  have l := ok.2.2.2.1 p
  have h64 : hin (nI (16 * i + p)) 64 := nI_in (by omega) (by omega)
  refine zh_X8_pinchIfMay (np0 := 64) rfl ⟨h64, ?_⟩
  rw [nI_clamp (by omega), mz.2.2.2.1 p (by omega)]
  unfold sp1 at H
  by_cases c : 0 < (zs i).2.2.2.1 p ∧ (zs i).2.2.2.1 p < 9
  · rw [if_pos c] at H
    refine zbr_f (nI_ge (a := 0) c.1 (by omega)) ⟨h64, zbr_f (nI_ge (b := 9) c.2 (by omega)) ⟨h64, h64, ?_⟩⟩
    rw [nI_1]
    exact H _ (sim_R hs hi hp (by omega) (by omega)) (fr.refl.I (by decide) (by decide))
  · rw [if_neg c, va_up_id] at H
    by_cases c0 : 0 < (zs i).2.2.2.1 p
    · exact zbr_f (nI_ge (a := 0) c0 (by omega)) ⟨h64, zbr_t (nI_le (a := 9) (by omega) (by omega)) (H _ hs fr.refl)⟩
    · exact zbr_t (by rw [show (zs i).2.2.2.1 p = 0 by omega]; decide) (H _ hs fr.refl)
theorem mz_other {z : Nat} {v : Int32} {s : sZ} (h : mz g z s) (hne : ¬ z = i) (hp : p < 16) : mz (sI g 1060 (16 * i + p) v) z s ∧ mz (sI g 1061 (16 * i + p) v) z s ∧ mz (sI g 1063 i v) z s := by
  obtain ⟨h1, h2, h3, h4, h5, h6⟩ := h
  refine ⟨⟨h1, h2, fun q hq => ?_, h4, h5, h6⟩, ⟨h1, h2, h3, fun q hq => ?_, h5, h6⟩, ⟨h1, h2, h3, h4, ?_, h6⟩⟩
  · show upd (g.1 1060) _ _ _ = _
    rw [upd_off _ _ (by omega)]
    exact h3 q hq
  · show upd (g.1 1061) _ _ _ = _
    rw [upd_off _ _ (by omega)]
    exact h4 q hq
  · show upd (g.1 1063) _ _ _ = _
    rw [upd_off _ _ hne]
    exact h5
theorem mz_spL {v : Nat} {s : sZ} (h : mz g i s) : mz (sI g 1060 (16 * i + p) (nI v)) i (spL s p v) := by
  obtain ⟨h1, h2, h3, h4, h5, h6⟩ := h
  refine ⟨h1, h2, fun q hq => ?_, h4, h5, h6⟩
  show upd (g.1 1060) _ _ _ = nI (va_up _ _ _ q)
  by_cases c : q = p
  · rw [c, upd_at, va_up_at]
  · rw [upd_off _ _ (by omega), va_up_off _ _ c]
    exact h3 q hq
theorem mz_spR {v : Nat} {s : sZ} (h : mz g i s) : mz (sI g 1061 (16 * i + p) (nI v)) i (spR s p v) := by
  obtain ⟨h1, h2, h3, h4, h5, h6⟩ := h
  refine ⟨h1, h2, h3, fun q hq => ?_, h5, h6⟩
  show upd (g.1 1061) _ _ _ = nI (va_up _ _ _ q)
  by_cases c : q = p
  · rw [c, upd_at, va_up_at]
  · rw [upd_off _ _ (by omega), va_up_off _ _ c]
    exact h4 q hq
theorem mz_open {s : sZ} (h : mz g i s) : mz (sI g 1063 i ((g.1 1063 i) &&& ((1 <<< ((nI p) &&& 31)) ^^^ (-1)))) i (sopen s p) := by
  obtain ⟨h1, h2, h3, h4, h5, h6⟩ := h
  refine ⟨h1, h2, h3, h4, ?_, h6⟩
  show upd (g.1 1063) i _ i = _
  rw [upd_at, h5]
  rfl
/-- the last of a change: a place that holds nothing is opened -/
theorem some_122 (hs : sim g0 x f g zs t) (hi : i < x.1) {s : sZ} (hp : p < s.1) (hf : fr [1060, 1061, 1063] [] g g1) (h1 : mz g1 i s) (hk : sokp s p) (h3 : ∀ z, z < x.1 → ¬ z = i → mz g1 z (zs z)) (H : ∀ g2, sim g0 x f g2 (va_up zs i (if sh s p = 0 then sopen s p else s)) t → fr [1060, 1061, 1063] [] g g2 → kv g2 e) : hwv (d + 2) zm_X8_something kv X 122 [(0, .ref 1046), (2, .int (nI i)), (3, .int (nI p))] g1 e := by
  have h4 := hs.2.2.1.1.2
  have n := hk.1.2
  have s9 : sh s p ≤ 9 := by have := hk.2.2.1 p; unfold sh; omega
  refine zh_X8_something_122 (cm_holdOfB (by omega) h1 hk.2.2.1 hk.2.2.2.1 (by omega) ⟨fun c => ?_, fun c => ?_⟩)
  · have c0 : sh s p = 0 := (nI_eq (b := 0) (by omega) (by omega)).mp c
    rw [if_pos c0] at H
    rw [nI_clamp (by omega)]
    have f2 : fr [1060, 1061, 1063] [] g (sI g1 1063 i ((g1.1 1063 i) &&& ((1 <<< ((nI p) &&& 31)) ^^^ (-1)))) := hf.I (by decide) (by decide)
    exact ⟨nI_in (by omega) (by omega), nI_in (by omega) (by omega), H _ (sim_at hs hi f2 (mz_open h1) (sokp_open hk (by omega)) (fun z hz hn => (mz_other (p := 0) (h3 z hz hn) hn (by omega)).2.2)) f2⟩
  · have c0 : ¬ sh s p = 0 := fun z => c (by rw [z]; rfl)
    rw [if_neg c0] at H
    exact H _ (sim_at hs hi hf h1 (sokp_hold hk hp c0) h3) hf
end
