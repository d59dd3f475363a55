theorem nI_sub1 {p : Nat} (h : 0 < p) : nI p - 1 = nI (p - 1) := by
  obtain ⟨q, rfl⟩ : ∃ q, p = q + 1 := ⟨p - 1, by omega⟩
  rw [← nI_1, Int32.add_sub_cancel]
  rfl
section
variable {d : Nat} {k : Int32 → hG → hE → Prop} {kv : hG → hE → Prop} {X : Nat → hG → hE → Prop} {g : hG} {e : hE} {x : sX} {z : Nat} {s : sZ}
theorem cm_runsOf (hz4 : z < 4) (hm : mz g z s) (hn : s.1 ≤ 16) (H : k (nI (srun s.2.2.2.2.1 s.1)) g e) : hci (d + 2) 268 [.ref 1046, .int (nI z)] g e k X := by
  have ez : (nI z).toNatClampNeg = z := nI_clamp (by omega)
  have h8 : hin (nI z) 8 := nI_in (by omega) (by omega)
  have h4 : hin (nI z) 4 := nI_in (by omega) (by omega)
  refine zh_X8_runsOf ?_
  refine hdown (W := fun p => hwi (d + 1) zm_X8_runsOf k X 4 [(0, .ref 1046), (1, .int (nI z)), (2, .int (nI (srun s.2.2.2.2.1 p))), (3, .int (nI p))] g e) (n := s.1) ?_ ?_ 0 (Nat.zero_le _)
  · exact zh_X8_runsOf_4 ⟨h8, zbr_t (by rw [ez, hm.1]; exact nI_le (Nat.le_refl _) (by omega)) H⟩
  · intro p hp W
    unfold srun at W
    refine zh_X8_runsOf_4 ⟨h8, zbr_f (by rw [ez, hm.1]; exact nI_ge hp (by omega)) ⟨h4, ?_⟩⟩
    rw [ez, hm.2.2.2.2.1]
    refine cm_isOf (by omega) ?_
    rw [Int32.add_zero, nI_1, nI_1]
    cases q : bt s.2.2.2.2.1 p with
    | false =>
      rw [if_neg (fun z => by rw [q] at z; exact absurd z.1 (by decide))] at W
      exact zbr_t rfl W
    | true =>
      refine zbr_f (by decide) ⟨fun c => ?_, fun c => ⟨h4, ?_⟩⟩
      · rw [if_pos ⟨q, .inl ((nI_eq (b := 0) (by omega) (by omega)).mp c)⟩] at W
        exact W
      · have hp0 : ¬ p = 0 := fun z => c (by rw [z]; rfl)
        rw [show nI p - 1 = nI (p - 1) from nI_sub1 (by omega)]
        refine cm_isOf (by omega) ?_
        rw [hm.2.2.2.2.1]
        cases q2 : bt s.2.2.2.2.1 (p - 1) with
        | false =>
          rw [if_pos ⟨q, .inr q2⟩] at W
          exact zbr_t rfl W
        | true =>
          rw [if_neg (fun z => by
            rcases z.2 with z | z
            · exact hp0 z
            · rw [q2] at z; cases z)] at W
          exact zbr_f (by decide) W
theorem cm_weakestOf (hz4 : z < 4) (hm : mz g z s) (hs : sok s) (H : k (swk s s.1).1 g e) : hci (d + 3) 270 [.ref 1046, .int (nI z)] g e k X := by
  have hn := hs.1.2
  have ez : (nI z).toNatClampNeg = z := nI_clamp (by omega)
  have h8 : hin (nI z) 8 := nI_in (by omega) (by omega)
  have h4 : hin (nI z) 4 := nI_in (by omega) (by omega)
  refine zh_X8_weakestOf ?_
  refine hdown (W := fun p => hwi (d + 2) zm_X8_weakestOf k X 4 [(0, .ref 1046), (1, .int (nI z)), (2, .int (swk s p).1), (3, .int (nI p))] g e) (n := s.1) ?_ ?_ 0 (Nat.zero_le _)
  · exact zh_X8_weakestOf_4 ⟨h8, zbr_t (by rw [ez, hm.1]; exact nI_le (Nat.le_refl _) (by omega)) H⟩
  · intro p hp W
    have l2 := sh_le hs p
    unfold swk at W
    refine zh_X8_weakestOf_4 ⟨h8, zbr_f (by rw [ez, hm.1]; exact nI_ge hp (by omega)) ⟨h4, ?_⟩⟩
    rw [ez, hm.2.2.2.2.1]
    refine cm_isOf (by omega) ?_
    rw [nI_1]
    cases q : bt s.2.2.2.2.1 p with
    | false =>
      rw [if_neg (fun z => by rw [q] at z; exact absurd z.1 (by decide))] at W
      exact zbr_t rfl W
    | true =>
      refine zbr_f (by decide) ?_
      rcases swk_in (s := s) p with ⟨c1, c2⟩ | ⟨b, hb, c1, c2⟩
      · rw [c2, if_pos ⟨q, by omega⟩] at W
        exact zbr_t c1 W
      · have l3 := sh_le hs b
        rw [c1]
        refine zbr_f (nI_m1 (by omega)) (cm_holdOf hz4 hm hs (by omega) (cm_holdOf hz4 hm hs (by omega) ⟨fun c => ?_, fun c => ?_⟩))
        · rw [if_neg (fun z => by
            have := z.2
            rw [c2] at this
            exact absurd c (nI_ge this (by omega))), c1] at W
          exact W
        · rw [if_pos ⟨q, by
            rw [c2]
            apply Nat.lt_of_not_le
            intro z
            exact c (nI_le z (by omega))⟩] at W
          exact W
theorem sim_again {g0 g1 g2 : hG} {f : Nat → Int32} {zs : Nat → sZ} {t : Nat} (hs : sim g0 x f g1 zs t) (h1 : fr qL qF g0 g2) (h2 : mdr g2 x) (h3 : g2.1 1046 4 = 0) (h4 : fr uL [31] g1 g2) : sim g0 x f g2 x.2.1 x.2.2.2.2.2 := by
  obtain ⟨a, ⟨b1, b2, b3⟩, c1, c2, c3, c4, c5⟩ := hs
  exact ⟨a, ⟨h1, by rw [h4.1 1070 (by decide) (by decide)]; exact b2, h3⟩, h2.1, h2.2.1, h2.2.2.1, h2.2.2.2.1, by have := h2.2.2.2.2; omega⟩
theorem sday_any {pl wl : List tk} {st day : Int32} {s : sZ} (hs : sok s) : ((sday pl wl st day s).2.1 = 0) ↔ sany pl s st day s.1 = false := by
  constructor
  · intro h
    exact sany_f.mpr (sday_0 hs.1.2 h)
  · intro h
    rw [sday_calm (sany_f.mp h)]
theorem cm_bearsOf {i : Nat} (hi : i < x.1) (hm : mdr g x) (hc : g.1 1046 4 = 0) (H : mqk g x e k (v_be x (x.2.1 i) 100 0)) : hci (d + 7) 271 [.ref 1046, .int (nI i)] g e k X := by
  have h4 := hm.1.1.2
  have ht := hm.2.2.2.2
  have ei : (nI i).toNatClampNeg = i := nI_clamp (by omega)
  have hi4 : hin (nI i) 4 := nI_in (by omega) (by omega)
  have hok := (hm.1.2 i hi).2
  refine zh_X8_bearsOf (sim_begin hm hc (fun f s0 => ?_))
  have out : ∀ (g1 : hG) (zs : Nat → sZ) (t : Nat), sim g x f g1 zs t → mdr g1 x → k (v_be x (x.2.1 i) 100 0) g1 e := fun g1 zs t s1 m1 => H g1 s1.2.1.1 m1 s1.2.1.2.2
  obtain ⟨V, hV⟩ : ∃ V, V = v_be x (x.2.1 i) 100 0 := ⟨_, rfl⟩
  rw [← hV] at out
  have : ∀ m j, j + m = 100 → ∀ g1, sim g x f g1 x.2.1 x.2.2.2.2.2 → mdr g1 x → v_be x (x.2.1 i) m j = V → hwi (d + 6) zm_X8_bearsOf k X 16 [(0, .ref 1046), (1, .int (nI i)), (2, .int (nI j - 1)), (3, .int 1), (4, .int (nI j))] g1 e := by
    intro m
    induction m with
    | zero =>
      intro j hj g1 s1 m1 h
      refine zh_X8_bearsOf_16 (zbr_t (by rw [show (99 : Int32) = nI 99 from rfl]; exact nI_lt (by omega) (by omega)) ?_)
      have := out g1 _ _ s1 m1
      rw [← h] at this
      rw [show j = 100 by omega]
      exact this
    | succ m ih =>
      intro j hj g1 s1 m1 h
      refine zh_X8_bearsOf_16 (zbr_f (by rw [show (99 : Int32) = nI 99 from rfl]; exact nI_nlt (by omega) (by omega)) (zbr_f (by decide) (sim_day s1 (by omega) (fun g2 s2 b2 => ⟨hi4, ?_⟩))))
      rw [ei, b2 i hi, nI_1]
      unfold v_be at h
      refine ⟨fun c => zbr_f (by decide) (sim_end s2 (fun g3 f3 m3 c3 u3 => ?_)), fun c => zbr_t rfl (sim_end s2 (fun g3 f3 m3 c3 u3 => ?_))⟩
      · rw [if_neg (by rw [(sday_any hok).mp c]; decide)] at h
        have := ih (j + 1) (by omega) g3 (sim_again s2 f3 m3 c3 u3) m3 h
        rw [← nI_1, Int32.add_sub_cancel, nI_1] at this
        exact this
      · rw [if_pos (by
          cases q : sany x.2.2.2.1 (x.2.1 i) (nI j) (nI x.2.2.2.2.2) (x.2.1 i).1 with
          | true => rfl
          | false => exact absurd ((sday_any hok).mpr q) c)] at h
        have := H g3 f3 m3 c3
        rw [← hV, ← h] at this
        exact zh_X8_bearsOf_16 ⟨fun _ => this, fun _ => zbr_t rfl this⟩
  exact this 100 0 rfl _ s0 (mdr_fr (L := [1070]) (F := []) (fr_aI (by decide) (by decide)) (by decide) (by decide) hm) hV.symm
theorem mq_zip (hm : mdr g x) {v w : Int32} (H : ∀ g' u, fr qL qF g g' → mdr g' x → om c12 (o_zip x v w) u g' → k u g' e) : hci (d + 8) 275 [.ref 1046, .int v, .int w] g e k X := by
  have h4 := hm.1.1.2
  have hm0 : mdr (sI g 1046 4 0) x := mdr_code hm
  refine zh_X8_zip (cm_isZip hm0.1.1.1 h4 (fun i hi hv => zbr_f (by decide) ?_) (fun h => zbr_t rfl (cm_failQ (cd := c12) (n := 1) hm0 fr_code (by unfold o_zip; rw [iszb_f (by omega) h]; rfl) H)))
  subst hv
  have mzi := (hm0.1.2 i hi).1
  have oki := (hm0.1.2 i hi).2
  have n2 := oki.1.2
  have ei : (nI i).toNatClampNeg = i := nI_clamp (by omega)
  have hi4 : hin (nI i) 4 := nI_in (by omega) (by omega)
  have hi8 : hin (nI i) 8 := nI_in (by omega) (by omega)
  by_cases hw : isz 10 w
  · obtain ⟨m, hm', rfl⟩ := hw
    have fin : ∀ u, u = v_zip x (x.2.1 i) m → k u (sI g 1046 4 0) e := fun u hu => H _ u fr_code hm0 (om_l (by rw [o_zip_y h4 hi hm', hu]) code_at)
    rw [ei, mzi.1, mzi.2.2.2.2.1, mzi.2.2.2.2.2, mzi.2.1]
    match m, hm' with
    | 0, _ => exact zbr_t rfl ⟨hi8, fin _ rfl⟩
    | 1, _ => exact zbr_f (by decide) (zbr_t rfl ⟨hi4, fin _ rfl⟩)
    | 2, _ => exact zbr_f (by decide) (zbr_f (by decide) (zbr_t rfl ⟨hi4, fin _ rfl⟩))
    | 3, _ => exact zbr_f (by decide) (zbr_f (by decide) (zbr_f (by decide) (zbr_t rfl (cm_holding (by omega) mzi oki (fin _ rfl)))))
    | 4, _ => exact zbr_f (by decide) (zbr_f (by decide) (zbr_f (by decide) (zbr_f (by decide) (zbr_t rfl ⟨hi8, fin _ rfl⟩))))
    | 5, _ => exact zbr_f (by decide) (zbr_f (by decide) (zbr_f (by decide) (zbr_f (by decide) (zbr_f (by decide) (zbr_t rfl (cm_runsOf (by omega) mzi n2 (fin _ rfl)))))))
    | 6, _ => exact zbr_f (by decide) (zbr_f (by decide) (zbr_f (by decide) (zbr_f (by decide) (zbr_f (by decide) (zbr_f (by decide) (zbr_t rfl (zbr_f (by decide) (cm_longestOf (by omega) mzi n2 (fin _ (by rw [if_pos rfl, (mlr_zlr _ _).1]; rfl))))))))))
    | 7, _ => exact zbr_f (by decide) (zbr_f (by decide) (zbr_f (by decide) (zbr_f (by decide) (zbr_f (by decide) (zbr_f (by decide) (zbr_f (by decide) (zbr_t rfl (zbr_t (by decide) (cm_longestOf (by omega) mzi n2 (fin _ (by rw [if_neg (by decide)]; rfl)))))))))))
    | 8, _ => exact zbr_f (by decide) (zbr_f (by decide) (zbr_f (by decide) (zbr_f (by decide) (zbr_f (by decide) (zbr_f (by decide) (zbr_f (by decide) (zbr_f (by decide) (zbr_t rfl (cm_weakestOf (by omega) mzi oki (fin _ rfl))))))))))
    | 9, _ => exact zbr_f (by decide) (zbr_f (by decide) (zbr_f (by decide) (zbr_f (by decide) (zbr_f (by decide) (zbr_f (by decide) (zbr_f (by decide) (zbr_f (by decide) (zbr_f (by decide) (zbr_t rfl (cm_bearsOf hi hm0 code_at (mqk_in (o_zip_y h4 hi (by omega)) H)))))))))))
    | m + 10, h => exact absurd h (by omega)
  · have q : ∀ m, m < 10 → ¬ w = nI m := fun m hm c => hw ⟨m, hm, c⟩
    exact zbr_f (q 0 (by omega)) (zbr_f (q 1 (by omega)) (zbr_f (q 2 (by omega)) (zbr_f (q 3 (by omega)) (zbr_f (q 4 (by omega)) (zbr_f (q 5 (by omega)) (zbr_f (q 6 (by omega)) (zbr_f (q 7 (by omega)) (zbr_f (q 8 (by omega)) (zbr_f (q 9 (by omega)) (cm_failQ (cd := c12) (n := 1) hm0 fr_code (by unfold o_zip; rw [iszb_f (n := 10) (by omega) hw, Bool.and_false]; rfl) H))))))))))
end
