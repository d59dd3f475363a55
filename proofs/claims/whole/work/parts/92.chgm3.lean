theorem sokp_of {s : sZ} (h : sok s) (p : Nat) : sokp s p := ⟨h.1, h.2.1, h.2.2.1, h.2.2.2.1, h.2.2.2.2.1, fun q _ hq => h.2.2.2.2.2.1 q hq, h.2.2.2.2.2.2⟩
theorem sok_open0 {s : sZ} (h : sok s) {p : Nat} (hp : p < 32) : (if sh s p = 0 then sopen s p else s) = s := by
  by_cases c : sh s p = 0
  · rw [if_pos c, sopen_id hp (sok_bt0 h c)]
  · rw [if_neg c]
section
variable {d : Nat} {k : Int32 → hG → hE → Prop} {kv : hG → hE → Prop} {X : Nat → hG → hE → Prop} {g g0 g1 : hG} {e : hE} {D : Nat} {x : sX} {f : Nat → Int32} {zs : Nat → sZ} {t i p : Nat}
theorem cm_changeG {dn : Int32 → Int32} {dv : Int32 → Nat} (hd : ∀ (d : Nat) (k : Int32 → hG → hE → Prop) (g : hG) (n : Nat), 0 < n → n ≤ 16 → k (nI (dv (dn (g.1 1046 51)) % n)) (sI g 1046 51 (dn (g.1 1046 51))) e → hci (d + 1) 326 [.ref 1046, .int (nI n)] g e k X) (hs : sim g0 x f g zs t) (H : ∀ g2, sim g0 x f g2 (schG dn dv x.1 zs (g.1 1046 51)).1 t → g2.1 1046 51 = (schG dn dv x.1 zs (g.1 1046 51)).2 → g2.1 1069 = g.1 1069 → kv g2 e) : hcv (d + 6) 327 [.ref 1046] g e kv X := by
  have h4 := hs.2.2.1.1.2
  obtain ⟨S, hS⟩ : ∃ S, S = g.1 1046 51 := ⟨_, rfl⟩
  obtain ⟨R, hR⟩ : ∃ R, R = g.1 1069 := ⟨_, rfl⟩
  rw [← hS, ← hR] at H
  refine zh_X8_something (hd _ _ _ 6 (by omega) (by omega) ?_)
  rw [← hS]
  have s1 : sim g0 x f (sI g 1046 51 (dn S)) zs t := sim_51 hs
  have v1 : (sI g 1046 51 (dn S)).1 1046 51 = dn S := by rw [sI_at, upd_at]
  have r1 : (sI g 1046 51 (dn S)).1 1069 = R := by rw [hR]; exact sI_off g (by omega)
  generalize sI g 1046 51 (dn S) = g1 at *
  have m6 : dv (dn S) % 6 < 6 := Nat.mod_lt _ (by omega)
  unfold schG at H
  refine ⟨fun c => ?_, fun c => ?_⟩
  · rw [if_pos (.inl (by
      apply Nat.lt_of_not_le
      intro z
      exact absurd c (nI_nlt (b := dv (dn S) % 6) (a := 2) z (by omega))))] at H
    exact H g1 s1 v1 r1
  · have c2 : ¬ 2 < dv (dn S) % 6 := fun z => c (nI_lt (a := 2) z (by omega))
    rw [s1.2.2.1.1.1]
    refine ⟨fun c0 => ?_, fun c0 => ?_⟩
    · rw [if_pos (.inr ((nI_eq (b := 0) (by omega) (by omega)).mp c0))] at H
      exact H g1 s1 v1 r1
    · have n0 : ¬ x.1 = 0 := fun z => c0 (by rw [z]; rfl)
      rw [if_neg (fun z => z.elim c2 n0)] at H
      refine hd _ _ _ _ (by omega) (by omega) ?_
      rw [v1]
      have s2 : sim g0 x f (sI g1 1046 51 (dn (dn S))) zs t := sim_51 s1
      have v2 : (sI g1 1046 51 (dn (dn S))).1 1046 51 = dn (dn S) := by rw [sI_at, upd_at]
      have r2 : (sI g1 1046 51 (dn (dn S))).1 1069 = R := (sI_off g1 (by omega)).trans r1
      generalize sI g1 1046 51 (dn (dn S)) = g2 at *
      have hi : dv (dn (dn S)) % x.1 < x.1 := Nat.mod_lt _ (by omega)
      generalize dv (dn (dn S)) % x.1 = i at *
      have z2 := s2.2.2.1.2 i hi
      have n2 := z2.2.1.2
      have n1 := z2.2.1.1
      have ei : (nI i).toNatClampNeg = i := nI_clamp (by omega)
      rw [ei, z2.1.1]
      refine ⟨fun c3 => ⟨nI_in (by omega) (by omega), ?_⟩, fun c3 => ⟨nI_in (by omega) (by omega), ?_⟩⟩
      · rw [if_pos ((nI_eq (b := 0) (by omega) (by omega)).mp c3)] at H
        exact sim_slide s2 hi (Nat.le_refl _) (fun g3 s3 f3 => H g3 s3 (by rw [f3.2.1 51 (by decide)]; exact v2) (by rw [f3.1 1069 (by decide) (by decide)]; exact r2))
      · have c4 : ¬ dv (dn S) % 6 = 0 := fun z => c3 (by rw [z]; rfl)
        rw [if_neg c4] at H
        refine hd _ _ _ _ (by omega) (by omega) ?_
        rw [v2]
        have s3 : sim g0 x f (sI g2 1046 51 (dn (dn (dn S)))) zs t := sim_51 s2
        have v3 : (sI g2 1046 51 (dn (dn (dn S)))).1 1046 51 = dn (dn (dn S)) := by rw [sI_at, upd_at]
        have r3 : (sI g2 1046 51 (dn (dn (dn S)))).1 1069 = R := (sI_off g2 (by omega)).trans r2
        generalize sI g2 1046 51 (dn (dn (dn S))) = g3 at *
        have hp : dv (dn (dn (dn S))) % (zs i).1 < (zs i).1 := Nat.mod_lt _ (by omega)
        generalize dv (dn (dn (dn S))) % (zs i).1 = p at *
        refine hd _ _ _ 2 (by omega) (by omega) ?_
        rw [v3]
        have s4 : sim g0 x f (sI g3 1046 51 (dn (dn (dn (dn S))))) zs t := sim_51 s3
        have v4 : (sI g3 1046 51 (dn (dn (dn (dn S))))).1 1046 51 = dn (dn (dn (dn S))) := by rw [sI_at, upd_at]
        have r4 : (sI g3 1046 51 (dn (dn (dn (dn S))))).1 1069 = R := (sI_off g3 (by omega)).trans r3
        generalize sI g3 1046 51 (dn (dn (dn (dn S)))) = g4 at *
        have hb : dv (dn (dn (dn (dn S)))) % 2 < 2 := Nat.mod_lt _ (by omega)
        generalize dv (dn (dn (dn (dn S)))) % 2 = b at *
        have z4 := s4.2.2.1.2 i hi
        have lL := z4.2.2.2.1 p
        have lR := z4.2.2.2.2.1 p
        have h64 : hin (nI (16 * i + p)) 64 := nI_in (by omega) (by omega)
        have e64 : (nI (16 * i + p)).toNatClampNeg = 16 * i + p := nI_clamp (by omega)
        have fin : ∀ s', s' = scz (dv (dn S) % 6) b (zs i) p → ∀ g5, sim g0 x f g5 (va_up zs i s') t → fr [1060, 1061, 1063] [] g4 g5 → kv g5 e := by
          intro s' hs' g5 s5 f5
          rw [hs'] at s5
          exact H g5 s5 (by rw [f5.2.1 51 (by decide)]; exact v4) (by rw [f5.1 1069 (by decide) (by decide)]; exact r4)
        unfold scz at fin
        rw [ix16]
        have oth : ∀ z, z < x.1 → ¬ z = i → mz g4 z (zs z) := fun z hz _ => (s4.2.2.1.2 z hz).1
        match b, hb with
        | 0, _ =>
          refine zbr_t rfl ⟨fun c5 => ?_, fun c5 => ?_⟩
          · rw [if_pos ((nI_eq (b := 1) (by omega) (by omega)).mp c5), if_pos rfl] at fin
            refine sim_p0F s4 hi hp (fun g5 s5 f5 => zh_X8_something_101 rfl (zbr_f (by rw [c5]; decide) ?_))
            have z5 := s5.2.2.1.2 i hi
            rw [va_up_at] at z5
            refine some_122 s5 hi (s := sp0 (zs i) p) (by rw [sp0_n]; exact hp) fr.refl z5.1 (sokp_of z5.2 p) (fun z hz _ => (s5.2.2.1.2 z hz).1) (fun g6 s6 f6 => fin _ rfl g6 ?_ (f5.trans f6))
            rw [sok_open0 z5.2 (by omega), va_up_up] at s6
            exact s6
          · have c6 : dv (dn S) % 6 = 2 := by
              have : ¬ dv (dn S) % 6 = 1 := fun z => c5 (by rw [z]; rfl)
              omega
            rw [if_neg (by omega), if_pos rfl] at fin
            refine zh_X8_something_101 rfl (zbr_t (by rw [c6]; rfl) ⟨h64, ?_⟩)
            rw [e64, z4.1.2.2.1 p (by omega)]
            refine c_max ⟨h64, ?_⟩
            rw [imx_m1 _ lL]
            exact some_122 s4 hi (s := spL (zs i) p ((zs i).2.2.1 p - 1)) hp (fr.refl.I (by decide) (by decide)) (mz_spL z4.1) (sokp_L z4.2 hp (by omega)) (fun z hz hn => (mz_other (oth z hz hn) hn (by omega)).1) (fun g6 s6 f6 => fin _ rfl g6 s6 f6)
        | 1, _ =>
          refine zbr_f (by decide) ⟨fun c5 => ?_, fun c5 => ?_⟩
          · rw [if_pos ((nI_eq (b := 1) (by omega) (by omega)).mp c5), if_neg (by decide)] at fin
            refine sim_p1F s4 hi hp (fun g5 s5 f5 => zh_X8_something_101 rfl (zbr_f (by rw [c5]; decide) ?_))
            have z5 := s5.2.2.1.2 i hi
            rw [va_up_at] at z5
            refine some_122 s5 hi (s := sp1 (zs i) p) (by rw [sp1_n]; exact hp) fr.refl z5.1 (sokp_of z5.2 p) (fun z hz _ => (s5.2.2.1.2 z hz).1) (fun g6 s6 f6 => fin _ rfl g6 ?_ (f5.trans f6))
            rw [sok_open0 z5.2 (by omega), va_up_up] at s6
            exact s6
          · have c6 : dv (dn S) % 6 = 2 := by
              have : ¬ dv (dn S) % 6 = 1 := fun z => c5 (by rw [z]; rfl)
              omega
            rw [if_neg (by omega), if_neg (by decide)] at fin
            refine zh_X8_something_101 rfl (zbr_t (by rw [c6]; rfl) ⟨h64, ?_⟩)
            rw [e64, z4.1.2.2.2.1 p (by omega)]
            refine c_max ⟨h64, ?_⟩
            rw [imx_m1 _ lR]
            exact some_122 s4 hi (s := spR (zs i) p ((zs i).2.2.2.1 p - 1)) hp (fr.refl.I (by decide) (by decide)) (mz_spR z4.1) (sokp_R z4.2 hp (by omega)) (fun z hz hn => (mz_other (oth z hz hn) hn (by omega)).2.1) (fun g6 s6 f6 => fin _ rfl g6 s6 f6)
        | b + 2, h => exact absurd h (by omega)
theorem cm_change (hs : sim g0 x f g zs t) (H : ∀ g2, sim g0 x f g2 (sch x.1 zs (g.1 1046 51)).1 t → g2.1 1046 51 = (sch x.1 zs (g.1 1046 51)).2 → g2.1 1069 = g.1 1069 → kv g2 e) : hcv (d + 6) 327 [.ref 1046] g e kv X :=
  cm_changeG (dn := sdn) (dv := sdv) (fun _ _ _ _ h0 hn h => cm_draw h0 hn h) hs H
end
