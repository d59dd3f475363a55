def spL (s : sZ) (p v : Nat) : sZ := (s.1, s.2.1, va_up s.2.2.1 p v, s.2.2.2)
def spR (s : sZ) (p v : Nat) : sZ := (s.1, s.2.1, s.2.2.1, va_up s.2.2.2.1 p v, s.2.2.2.2)
theorem sok_spL {s : sZ} (h : sok s) {p v : Nat} (hp : p < s.1) (h0 : 0 < v) (h9 : v ≤ 9) : sok (spL s p v) := by
  obtain ⟨h1, h2, h3, h4, h5, h6, h7⟩ := h
  refine ⟨h1, h2, va_cases (fun x => x ≤ 9) h9 h3, h4, fun q hq => ?_, fun q hq => ?_, h7⟩
  · have e : ¬ q = p := by have : s.1 ≤ q := hq; omega
    show va_up _ _ _ q = 0 ∧ _
    rw [va_up_off _ _ e]
    exact h5 q hq
  · obtain ⟨a, b, c⟩ := h6 q hq
    refine ⟨a, ?_, c⟩
    show 0 < va_up _ _ _ q
    by_cases e : q = p
    · rw [e, va_up_at]; exact h0
    · rw [va_up_off _ _ e]; exact b
theorem sok_spR {s : sZ} (h : sok s) {p v : Nat} (hp : p < s.1) (h0 : 0 < v) (h9 : v ≤ 9) : sok (spR s p v) := by
  obtain ⟨h1, h2, h3, h4, h5, h6, h7⟩ := h
  refine ⟨h1, h2, h3, va_cases (fun x => x ≤ 9) h9 h4, fun q hq => ?_, fun q hq => ?_, h7⟩
  · have e : ¬ q = p := by have : s.1 ≤ q := hq; omega
    show _ ∧ va_up _ _ _ q = 0
    rw [va_up_off _ _ e]
    exact h5 q hq
  · obtain ⟨a, b, c⟩ := h6 q hq
    refine ⟨a, b, ?_⟩
    show 0 < va_up _ _ _ q
    by_cases e : q = p
    · rw [e, va_up_at]; exact h0
    · rw [va_up_off _ _ e]; exact c
def sp0 (s : sZ) (p : Nat) : sZ := if 0 < s.2.2.1 p ∧ s.2.2.1 p < 9 then spL s p (s.2.2.1 p + 1) else s
def sp1 (s : sZ) (p : Nat) : sZ := if 0 < s.2.2.2.1 p ∧ s.2.2.2.1 p < 9 then spR s p (s.2.2.2.1 p + 1) else s
def sl0 (s : sZ) (p : Nat) : sZ := if s.2.2.1 p = 0 then spL s p 9 else s
def sl1 (s : sZ) (p : Nat) : sZ := if s.2.2.2.1 p = 0 then spR s p 9 else s
theorem sp0_n (s : sZ) (p : Nat) : (sp0 s p).1 = s.1 := by unfold sp0; split <;> rfl
theorem sp1_n (s : sZ) (p : Nat) : (sp1 s p).1 = s.1 := by unfold sp1; split <;> rfl
theorem sl0_n (s : sZ) (p : Nat) : (sl0 s p).1 = s.1 := by unfold sl0; split <;> rfl
theorem sl1_n (s : sZ) (p : Nat) : (sl1 s p).1 = s.1 := by unfold sl1; split <;> rfl
def ctz (pl : List tk) (z : cZ) (s : sZ) : Prop := zrel z s ∧ sok s ∧ hv pl s z.2.2.2.2.2.2
theorem zmp_t : ∀ v, v ≤ 9 → (zmp (nI v) = true ↔ (0 < v ∧ v < 9)) := by decide +kernel
theorem ctz_p0 {pl : List tk} {z : cZ} {s : sZ} (h : ctz pl z s) {p : Nat} (hp : p < s.1) : ctz pl (zpinch z 0 p) (sp0 s p) := by
  have n := h.2.1.1.2
  have e : zgrip z 0 p = nI (s.2.2.1 p) := by unfold zgrip; rw [if_pos rfl]; exact h.1.2.2.1 p (by omega)
  unfold zpinch sp0
  rw [e]
  have l := h.2.1.2.2.1 p
  by_cases c : 0 < s.2.2.1 p ∧ s.2.2.1 p < 9
  · rw [if_pos c, if_pos ((zmp_t _ l).mpr c), nI_1]
    refine ⟨zrel_put0 h.1 (by omega) (by omega), sok_spL h.2.1 hp (by omega) (by omega), ?_⟩
    unfold zgput
    rw [if_pos rfl]
    exact hv_0 _ _
  · rw [if_neg c, if_neg (fun q => c ((zmp_t _ l).mp q))]
    exact h
theorem ctz_p1 {pl : List tk} {z : cZ} {s : sZ} (h : ctz pl z s) {p : Nat} (hp : p < s.1) : ctz pl (zpinch z 1 p) (sp1 s p) := by
  have n := h.2.1.1.2
  have e : zgrip z 1 p = nI (s.2.2.2.1 p) := by unfold zgrip; rw [if_neg (by decide)]; exact h.1.2.2.2.1 p (by omega)
  unfold zpinch sp1
  rw [e]
  have l := h.2.1.2.2.2.1 p
  by_cases c : 0 < s.2.2.2.1 p ∧ s.2.2.2.1 p < 9
  · rw [if_pos c, if_pos ((zmp_t _ l).mpr c), nI_1]
    refine ⟨zrel_put1 h.1 (by omega) (by omega), sok_spR h.2.1 hp (by omega) (by omega), ?_⟩
    unfold zgput
    rw [if_neg (by decide)]
    exact hv_0 _ _
  · rw [if_neg c, if_neg (fun q => c ((zmp_t _ l).mp q))]
    exact h
theorem ctz_l0 {pl : List tk} {z : cZ} {s : sZ} (h : ctz pl z s) {p : Nat} (hp : p < s.1) : ctz pl (zlackL z p) (sl0 s p) := by
  have n := h.2.1.1.2
  unfold zlackL sl0
  rw [h.1.2.2.1 p (by omega)]
  have l := h.2.1.2.2.1 p
  by_cases c : s.2.2.1 p = 0
  · rw [if_pos c, if_pos (by rw [c]; rfl)]
    refine ⟨zrel_put0 (v := 9) h.1 (by omega) (by omega), sok_spL h.2.1 hp (by omega) (by omega), ?_⟩
    unfold zgput
    rw [if_pos rfl]
    exact hv_0 _ _
  · rw [if_neg c, if_neg (show ¬ nI (s.2.2.1 p) = 0 from fun q => c ((nI_eq (b := 0) (by omega) (by omega)).mp q))]
    exact h
theorem ctz_l {pl : List tk} {z : cZ} {s : sZ} (h : ctz pl z s) {p : Nat} (hp : p < s.1) : ctz pl (zlack z p) (sl1 (sl0 s p) p) := by
  have h0 := ctz_l0 h hp
  have n := h0.2.1.1.2
  have hp0 : p < (sl0 s p).1 := by rw [sl0_n]; exact hp
  generalize sl0 s p = t at *
  unfold zlack sl1
  generalize zlackL z p = y at *
  rw [h0.1.2.2.2.1 p (by omega)]
  have l := h0.2.1.2.2.2.1 p
  by_cases c : t.2.2.2.1 p = 0
  · rw [if_pos c, if_pos (by rw [c]; rfl)]
    refine ⟨zrel_put1 (v := 9) h0.1 (by omega) (by omega), sok_spR h0.2.1 hp0 (by omega) (by omega), ?_⟩
    unfold zgput
    rw [if_neg (by decide)]
    exact hv_0 _ _
  · rw [if_neg c, if_neg (show ¬ nI (t.2.2.2.1 p) = 0 from fun q => c ((nI_eq (b := 0) (by omega) (by omega)).mp q))]
    exact h0
theorem ct_z {pl : List tk} {g : hG} {a : Nat} {z : cZ} {s : sZ} (h : ctz pl z s) : ct pl (zp g a z) a s := by unfold ct; rw [zg_zp]; exact h
/-- the model: a tooth is other -/
theorem sim_L {g0 g1 : hG} {x : sX} {f : Nat → Int32} {zs : Nat → sZ} {t i p v : Nat} (hs : sim g0 x f g1 zs t) (hi : i < x.1) (hp : p < (zs i).1) (h0 : 0 < v) (h9 : v ≤ 9) : sim g0 x f (sI g1 1060 (16 * i + p) (nI v)) (va_up zs i (spL (zs i) p v)) t := by
  obtain ⟨a, ⟨b1, b2, b3⟩, c1, c2, c3, c4, c5⟩ := hs
  have n := (c1.2 i hi).2.1.2
  refine ⟨a, ⟨b1.I (by decide) (by decide), b2, b3⟩, ⟨c1.1, fun z hz => ?_⟩, c2, c3, c4, c5⟩
  obtain ⟨h1, h2, h3, h4, h5, h6⟩ := (c1.2 z hz).1
  by_cases c : z = i
  · subst c
    rw [va_up_at]
    refine ⟨⟨h1, h2, fun q hq => ?_, h4, h5, h6⟩, sok_spL (c1.2 z hz).2 hp h0 h9⟩
    show upd (g1.1 1060) _ _ _ = nI (va_up _ _ _ q)
    by_cases e : q = p
    · rw [e, upd_at, va_up_at]
    · rw [upd_off _ _ (by omega), va_up_off _ _ e]
      exact h3 q hq
  · rw [va_up_off _ _ c]
    refine ⟨⟨h1, h2, fun q hq => ?_, h4, h5, h6⟩, (c1.2 z hz).2⟩
    show upd (g1.1 1060) _ _ _ = _
    rw [upd_off _ _ (by omega)]
    exact h3 q hq
theorem sim_R {g0 g1 : hG} {x : sX} {f : Nat → Int32} {zs : Nat → sZ} {t i p v : Nat} (hs : sim g0 x f g1 zs t) (hi : i < x.1) (hp : p < (zs i).1) (h0 : 0 < v) (h9 : v ≤ 9) : sim g0 x f (sI g1 1061 (16 * i + p) (nI v)) (va_up zs i (spR (zs i) p v)) t := by
  obtain ⟨a, ⟨b1, b2, b3⟩, c1, c2, c3, c4, c5⟩ := hs
  have n := (c1.2 i hi).2.1.2
  refine ⟨a, ⟨b1.I (by decide) (by decide), b2, b3⟩, ⟨c1.1, fun z hz => ?_⟩, c2, c3, c4, c5⟩
  obtain ⟨h1, h2, h3, h4, h5, h6⟩ := (c1.2 z hz).1
  by_cases c : z = i
  · subst c
    rw [va_up_at]
    refine ⟨⟨h1, h2, h3, fun q hq => ?_, h5, h6⟩, sok_spR (c1.2 z hz).2 hp h0 h9⟩
    show upd (g1.1 1061) _ _ _ = nI (va_up _ _ _ q)
    by_cases e : q = p
    · rw [e, upd_at, va_up_at]
    · rw [upd_off _ _ (by omega), va_up_off _ _ e]
      exact h4 q hq
  · rw [va_up_off _ _ c]
    refine ⟨⟨h1, h2, h3, fun q hq => ?_, h5, h6⟩, (c1.2 z hz).2⟩
    show upd (g1.1 1061) _ _ _ = _
    rw [upd_off _ _ (by omega)]
    exact h4 q hq
section
variable {d : Nat} {k : Int32 → hG → hE → Prop} {kv : hG → hE → Prop} {X : Nat → hG → hE → Prop} {g g0 g1 : hG} {e : hE} {D : Nat} {x : sX} {f : Nat → Int32} {zs : Nat → sZ} {t i p : Nat}
theorem sim_p0 (hs : sim g0 x f g1 zs t) (hi : i < x.1) (hp : p < (zs i).1) (H : ∀ g2, sim g0 x f g2 (va_up zs i (sp0 (zs i) p)) t → kv g2 e) : hcv (d + 1) 313 [.ref 1060, .int (nI (16 * i + p))] g1 e kv X := by
  have h4 := hs.2.2.1.1.2
  obtain ⟨mz, ok⟩ := hs.2.2.1.2 i hi
  have n := ok.1.2
  have l := ok.2.2.1 p
  have h64 : hin (nI (16 * i + p)) 64 := nI_in (by omega) (by omega)
  refine zh_X8_pinchIfMay (np0 := 64) rfl ⟨h64, ?_⟩
  rw [nI_clamp (by omega), mz.2.2.1 p (by omega)]
  unfold sp0 at H
  by_cases c : 0 < (zs i).2.2.1 p ∧ (zs i).2.2.1 p < 9
  · rw [if_pos c] at H
    refine zbr_f (nI_ge (a := 0) c.1 (by omega)) ⟨h64, zbr_f (nI_ge (b := 9) c.2 (by omega)) ⟨h64, h64, ?_⟩⟩
    rw [nI_1]
    exact H _ (sim_L hs hi hp (by omega) (by omega))
  · rw [if_neg c, va_up_id] at H
    by_cases c0 : 0 < (zs i).2.2.1 p
    · exact zbr_f (nI_ge (a := 0) c0 (by omega)) ⟨h64, zbr_t (nI_le (a := 9) (by omega) (by omega)) (H _ hs)⟩
    · exact zbr_t (by rw [show (zs i).2.2.1 p = 0 by omega]; decide) (H _ hs)
theorem sim_p1 (hs : sim g0 x f g1 zs t) (hi : i < x.1) (hp : p < (zs i).1) (H : ∀ g2, sim g0 x f g2 (va_up zs i (sp1 (zs i) p)) t → kv g2 e) : hcv (d + 1) 313 [.ref 1061, .int (nI (16 * i + p))] g1 e kv X := by
  have h4 := hs.2.2.1.1.2
  obtain ⟨mz, ok⟩ := hs.2.2.1.2 i hi
  have n := ok.1.2
  have l := ok.2.2.2.1 p
  have h64 : hin (nI (16 * i + p)) 64 := nI_in (by omega) (by omega)
  refine zh_X8_pinchIfMay (np0 := 64) rfl ⟨h64, ?_⟩
  rw [nI_clamp (by omega), mz.2.2.2.1 p (by omega)]
  unfold sp1 at H
  by_cases c : 0 < (zs i).2.2.2.1 p ∧ (zs i).2.2.2.1 p < 9
  · rw [if_pos c] at H
    refine zbr_f (nI_ge (a := 0) c.1 (by omega)) ⟨h64, zbr_f (nI_ge (b := 9) c.2 (by omega)) ⟨h64, h64, ?_⟩⟩
    rw [nI_1]
    exact H _ (sim_R hs hi hp (by omega) (by omega))
  · rw [if_neg c, va_up_id] at H
    by_cases c0 : 0 < (zs i).2.2.2.1 p
    · exact zbr_f (nI_ge (a := 0) c0 (by omega)) ⟨h64, zbr_t (nI_le (a := 9) (by omega) (by omega)) (H _ hs)⟩
    · exact zbr_t (by rw [show (zs i).2.2.2.1 p = 0 by omega]; decide) (H _ hs)
end
