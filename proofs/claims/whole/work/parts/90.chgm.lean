/-! YEARS in the model: helps -/
theorem sopen_id {s : sZ} {p : Nat} (hp : p < 32) (h : bt s.2.2.2.2.1 p = false) : sopen s p = s := by
  have e : s.2.2.2.2.1 &&& (bit p ^^^ (-1)) = s.2.2.2.2.1 := bt_ext (fun q _ => by
    rw [bt_clr _ hp]
    by_cases c : q = p
    · rw [c, h]; rfl
    · rw [decide_eq_false c]; simp)
  unfold sopen
  rw [e]
theorem sok_bt0 {s : sZ} (h : sok s) {p : Nat} (h0 : sh s p = 0) : bt s.2.2.2.2.1 p = false := by
  cases c : bt s.2.2.2.2.1 p with
  | false => rfl
  | true =>
    obtain ⟨_, a, b⟩ := h.2.2.2.2.2.1 p c
    unfold sh at h0
    omega
section
variable {d : Nat} {k : Int32 → hG → hE → Prop} {kv : hG → hE → Prop} {X : Nat → hG → hE → Prop} {g g0 g1 : hG} {e : hE} {x : sX} {f : Nat → Int32} {zs : Nat → sZ} {t z : Nat} {s : sZ}
theorem sim_51 {v : Int32} (hs : sim g0 x f g1 zs t) : sim g0 x f (sI g1 1046 51 v) zs t := by
  obtain ⟨a, ⟨b1, b2, b3⟩, c1, c2, c3, c4, c5⟩ := hs
  refine ⟨a, ⟨b1.F (by decide), b2, ?_⟩, c1, c2, c3, ?_, c5⟩
  · rw [sI_at, upd_off _ _ (by omega)]; exact b3
  · rw [sI_at, upd_off _ _ (by omega)]; exact c4
theorem cm_holdOfB (hz4 : z < 4) (hm : mz g z s) (h1 : ∀ p, s.2.2.1 p ≤ 9) (h2 : ∀ p, s.2.2.2.1 p ≤ 9) {p : Nat} (hp : p < 16) (H : k (nI (sh s p)) g e) : hci (d + 2) 251 [.ref 1046, .int (nI z), .int (nI p)] g e k X := by
  refine zh_X8_holdOf ?_
  rw [ix16, nI_clamp (by omega), hm.2.2.1 p hp, hm.2.2.2.1 p hp]
  refine ⟨nI_in (by omega) (by omega), nI_in (by omega) (by omega), c_min ?_⟩
  rw [imn_nI (by have := h1 p; omega) (by have := h2 p; omega)]
  exact H
/-- one zip of the model is other, and sound -/
theorem sim_at {i : Nat} {g2 : hG} {s' : sZ} (hs : sim g0 x f g1 zs t) (hi : i < x.1) (hf : fr [1060, 1061, 1063] [] g1 g2) (h1 : mz g2 i s') (h2 : sok s') (h3 : ∀ z, z < x.1 → ¬ z = i → mz g2 z (zs z)) : sim g0 x f g2 (va_up zs i s') t := by
  obtain ⟨a, ⟨b1, b2, b3⟩, c1, c2, c3, c4, c5⟩ := hs
  refine ⟨a, ⟨b1.trans (hf.sub (by decide) (by decide)), by rw [hf.1 1070 (by decide) (by decide)]; exact b2, by rw [hf.2.1 4 (by decide)]; exact b3⟩, ⟨⟨by rw [hf.1 1050 (by decide) (by decide)]; exact c1.1.1, c1.1.2⟩, fun z hz => ?_⟩, mrls_fr hf (by decide) (by decide) (by decide) c2, mst_fr hf (by decide) (by decide) c3, by rw [hf.2.1 31 (by decide)]; exact c4, c5⟩
  by_cases c : z = i
  · subst c
    rw [va_up_at]
    exact ⟨h1, h2⟩
  · rw [va_up_off _ _ c]
    exact ⟨h3 z hz c, (c1.2 z hz).2⟩
end
