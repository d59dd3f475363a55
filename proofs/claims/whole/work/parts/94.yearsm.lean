section
variable {d : Nat} {k : Int32 → hG → hE → Prop} {kv : hG → hE → Prop} {X : Nat → hG → hE → Prop} {g : hG} {e : hE} {pl wl : List tk} {sl : List Nat} {zs : Nat → sZ} {nz : Nat}
theorem cm_aDayOf2 (hm : ms g nz zs) (hr : mrls g pl wl) {st : Int32} (H : ∀ g', fr dL [31] g g' → (∀ z, z < nz → mx g g' z (sday pl wl st (g.1 1046 31) (zs z))) → g'.1 1046 31 = g.1 1046 31 + 1 → (∀ z, nz ≤ z → g'.1 1069 z = g.1 1069 z) → kv g' e) : hcv (d + 5) 264 [.ref 1046, .int st] g e kv X := by
  obtain ⟨⟨hz0, hz4⟩, hmz⟩ := hm
  have ub : ∀ b, b ∈ dL → b ∈ dL := fun b h => h
  refine zh_X8_aDayOf ?_
  have : ∀ z, z ≤ nz → ∀ g', fr dL [] g g' → (∀ z', z' < z → mx g g' z' (sday pl wl st (g.1 1046 31) (zs z'))) → (∀ z', z ≤ z' → z' < nz → mz g' z' (zs z') ∧ g'.1 1069 z' = g.1 1069 z') → (∀ z', nz ≤ z' → g'.1 1069 z' = g.1 1069 z') → hwv (d + 4) zm_X8_aDayOf kv X 2 [(0, .ref 1046), (1, .int st), (2, .int (nI z))] g' e := by
    refine hdown ?_ ?_
    · intro g' f hx _ ho
      refine zh_X8_aDayOf_2 (zbr_t (by rw [f.1 1050 (by decide) (by decide), hz0]; exact nI_le (Nat.le_refl _) (by omega)) ?_)
      have e31 : g'.1 1046 31 = g.1 1046 31 := f.2.1 31 (by decide)
      refine H _ ((f.sub ub (by decide)).F (by decide)) (fun z hz => ?_) ?_ ?_
      · exact hx z hz
      · rw [sI_at, upd_at, e31]
      · exact ho
    · intro z hz W g' f hx hy ho
      have hr' : mrls g' pl wl := mrls_fr f (by decide) (by decide) (by decide) hr
      have ez : (nI z).toNatClampNeg = z := nI_clamp (by omega)
      have hi4 : hin (nI z) 4 := nI_in (by omega) (by omega)
      refine zh_X8_aDayOf_2 (zbr_f (by rw [f.1 1050 (by decide) (by decide), hz0]; exact nI_ge hz (by omega)) ⟨hi4, hi4, ?_⟩)
      rw [ez]
      have hok := (hmz z hz).2
      have e31 : g'.1 1046 31 = g.1 1046 31 := f.2.1 31 (by decide)
      have f1 : fr dL [] g' (sI (sI g' 1067 z 0) 1068 z (-1)) := (fr.refl.I (by decide) (by decide)).I (by decide) (by decide)
      have o1 : oz z g' (sI (sI g' 1067 z 0) 1068 z (-1)) := ⟨fun i _ => ⟨rfl, rfl⟩, fun i hi => ⟨rfl, by simp [sI_r, upd, hi], by simp [sI_r, upd, hi], rfl⟩⟩
      refine aday_outer (g := sI (sI g' 1067 z 0) 1068 z (-1)) (g0 := g) (z := z) (pl := pl) (wl := wl) (y := sday pl wl st (g.1 1046 31) (zs z)) (by omega) (mrls_fr f1 (by decide) (by decide) (by decide) hr') ?_ 16 (zs z, 0, -1, false) hok (sbo_0 _ _ _) ?_ ?_ _ fr.refl oz.refl ?_
      · intro g2 f2 o2 m2
        rw [nI_1]
        have o12 := o1.trans o2
        have f12 := f1.trans f2
        refine W g2 (f.trans f12) (fun z' hz' => ?_) (fun z' h1 h2 => ?_) (fun z' h1 => ?_)
        · by_cases c : z' = z
          · subst c; exact m2
          · exact mx_oz c f12 o12 (hx z' (by omega))
        · obtain ⟨a, b⟩ := hy z' (by omega) h2
          exact ⟨mz_oz (by omega) f12 o12 a, by rw [(o12.2 z' (by omega)).2.2.2]; exact b⟩
        · rw [(o12.2 z' (by omega)).2.2.2]; exact ho z' h1
      · exact Nat.le_trans (cl_le _ _) hok.1.2
      · show sdk pl wl st ((sI (sI g' 1067 z 0) 1068 z (-1)).1 1046 31) (16 + 1) _ = _
        rw [show (sI (sI g' 1067 z 0) 1068 z (-1)).1 1046 31 = g.1 1046 31 from e31]
        exact sday_end hok.1.2 (Nat.le_trans (cl_le _ _) hok.1.2) (Nat.le_refl _)
      · obtain ⟨a, b⟩ := hy z (Nat.le_refl _) hz
        refine ⟨?_, by simp [sI_r, upd], by simp [sI_r, upd], ?_⟩
        · exact mz_cg a rfl rfl rfl rfl rfl rfl
        · show g'.1 1069 z = g.1 1069 z + jbc 0
          rw [b, show jbc 0 = 0 by decide, Int32.add_zero]
  exact this 0 (Nat.zero_le _) g fr.refl (fun z' h => absurd h (by omega)) (fun z' _ h => ⟨(hmz z' h).1, rfl⟩) (fun _ _ => rfl)
theorem cm_go1B (hm : ms g nz zs) (hr : mrls g pl wl) (hs : mst g sl) {t : Nat} (ht : g.1 1046 31 = nI t) (h31 : t < 2 ^ 30) (H : ∀ g', fr dL [31] g g' → (∀ z, z < nz → mx g g' z (sd1 pl wl sl t (zs z))) → g'.1 1046 31 = nI (t + 1) → (∀ z, nz ≤ z → g'.1 1069 z = g.1 1069 z) → kv g' e) : hcv (d + 6) 265 [.ref 1046, .int 1] g e kv X := by
  refine zh_X8_goOn (zh_X8_goOn_2 (zbr_f (by decide) ?_))
  rw [ht]
  refine cm_strainOf hs (by omega) (cm_aDayOf2 hm hr (fun g' f m q o => ?_))
  refine zh_X8_goOn_2 (zbr_t (by decide) (H g' f ?_ ?_ o))
  · rw [ht] at m; exact m
  · rw [q, ht, nI_1]
end
theorem xsum_add {f f' h : Nat → Int32} {n : Nat} (h1 : ∀ i, i < n → f i = f' i + h i) (h2 : ∀ i, n ≤ i → f i = f' i) : ∀ m, xsum f m = xsum f' m + xsum h (min n m)
  | 0 => by rw [Nat.min_zero]; rfl
  | m + 1 => by
    have ih := xsum_add h1 h2 m
    show xsum f m + f m = (xsum f' m + f' m) + _
    by_cases c : m < n
    · rw [ih, h1 m c, Nat.min_eq_right (by omega), Nat.min_eq_right (by omega)]
      show _ = _ + (xsum h m + h m)
      ac_rfl
    · rw [ih, h2 m (by omega), Nat.min_eq_left (by omega), Nat.min_eq_left (by omega)]
      ac_rfl
theorem xsum_0 {f : Nat → Int32} : ∀ m, (∀ i, i < m → f i = 0) → xsum f m = 0
  | 0, _ => rfl
  | m + 1, h => by
    show xsum f m + f m = 0
    rw [xsum_0 m (fun i hi => h i (by omega)), h m (by omega)]
    rfl
section
variable {d : Nat} {k : Int32 → hG → hE → Prop} {kv : hG → hE → Prop} {X : Nat → hG → hE → Prop} {g g0 g1 : hG} {e : hE} {x : sX} {f : Nat → Int32} {zs : Nat → sZ} {t z : Nat} {s : sZ}
theorem sim_go1B (hs : sim g0 x f g1 zs t) (ht : t < 2000) (H : ∀ g2, sim g0 x f g2 (xz x t zs) (t + 1) → xsum (g2.1 1069) 4 = xsum (g1.1 1069) 4 + xtb x t zs → fr dL [31] g1 g2 → kv g2 e) : hcv (d + 6) 265 [.ref 1046, .int 1] g1 e kv X := by
  obtain ⟨a, ⟨b1, b2, b3⟩, c1, c2, c3, c4, c5⟩ := hs
  refine cm_go1B c1 c2 c3 c4 (by omega) (fun g2 f2 m2 t2 o2 => H g2 ⟨a, ⟨b1.trans (f2.sub (by decide) (by decide)), by rw [f2.1 1070 (by decide) (by decide)]; exact b2, by rw [f2.2.1 4 (by decide)]; exact b3⟩, ms_mx f2 (by decide) c1 m2 (fun z hz => sok_day (c1.2 z hz).2), mrls_fr f2 (by decide) (by decide) (by decide) c2, mst_fr f2 (by decide) (by decide) c3, t2, by omega⟩ ?_ f2)
  have := xsum_add (f := g2.1 1069) (f' := g1.1 1069) (h := fun z => jbc (xd x t (zs z)).2.1) (n := x.1) (fun z hz => (m2 z hz).2.2.2) o2 4
  rw [Nat.min_eq_left c1.1.2] at this
  exact this
theorem mq_yearsG {F : (Nat → sZ) → Int32 → (Nat → sZ) × Int32} (hF : ∀ (d : Nat) (g0 g : hG) (f : Nat → Int32) (zs : Nat → sZ) (t : Nat) (kv : hG → hE → Prop), sim g0 x f g zs t → (∀ g2, sim g0 x f g2 (F zs (g.1 1046 51)).1 t → g2.1 1046 51 = (F zs (g.1 1046 51)).2 → g2.1 1069 = g.1 1069 → kv g2 e) → hcv (d + 6) 327 [.ref 1046] g e kv X) (hm : mdr g x) {S n w : Int32} (H : ∀ g' u, fr qL qF g g' → mdr g' x → om c12 (o_years F x S n w) u g' → k u g' e) : hci (d + 8) 328 [.ref 1046, .int S, .int n, .int w] g e k X := by
  have h4 := hm.1.1.2
  have ht := hm.2.2.2.2
  have hm0 : mdr (sI g 1046 4 0) x := mdr_code hm
  refine zh_X8_years (cm_isInR (a := 0) (b := 2) (by omega) (by omega) (by decide) (by decide) (fun w' _ hw hw' => zbr_f (by decide) ?_) (fun h => zbr_t rfl (cm_failQ (cd := c12) (n := 1) hm0 fr_code (by
    unfold o_years
    rw [iszb_f (n := 3) (by omega) (fun z => h (by obtain ⟨i, hi, e⟩ := z; exact ⟨i, by omega, by omega, e⟩))]
    rfl) H)))
  subst hw'
  have hz3 : iszb 3 (nI w') = true := iszb_t (by omega) (by omega)
  refine cm_isInR (a := 0) (b := 60) (by omega) (by omega) (by decide) (by decide) (fun m _ hm' hn => zbr_f (by decide) ?_) (fun h => zbr_t rfl (cm_failQ (cd := c12) (n := 0) hm0 fr_code (by unfold o_years; rw [hz3, isrb_f (a := 0) (by omega) (by omega) h]; rfl) H))
  subst hn
  have hv : o_years F x S (nI m) (nI w') = .inl (syv x (syr F x m x.2.2.2.2.2 x.2.1 S 0) w') := by
    unfold o_years
    rw [hz3, isrb_t (by omega) (by omega) hm', nI_clamp (by omega), nI_clamp (by omega)]
    rfl
  have HK := mqk_in hv H
  obtain ⟨R, hR⟩ : ∃ R, R = syr F x m x.2.2.2.2.2 x.2.1 S 0 := ⟨_, rfl⟩
  rw [← hR] at HK
  refine sim_begin hm0 code_at (fun f s0 => cm_beginAnew (fun g1 f1 z1 => ?_))
  have s1 := sim_51 (v := S) (sim_fr s0 f1 (by decide))
  have v1 : (sI g1 1046 51 S).1 1046 51 = S := by rw [sI_at, upd_at]
  have b1 : xsum ((sI g1 1046 51 S).1 1069) 4 = 0 := xsum_0 4 z1
  have : ∀ l j, j + l = m → ∀ (zs : Nat → sZ) (s b : Int32) (g1 : hG), sim (sI g 1046 4 0) x f g1 zs (x.2.2.2.2.2 + j) → g1.1 1046 51 = s → xsum (g1.1 1069) 4 = b → syr F x l (x.2.2.2.2.2 + j) zs s b = R → hwi (d + 7) zm_X8_years k X 62 [(0, .ref 1046), (2, .int (nI m)), (3, .int (nI w')), (4, .int (nI j))] g1 e := by
    intro l
    induction l with
    | zero =>
      intro j hj zs s b g1 s1 v1 b1 h
      refine zh_X8_years_62 (zbr_t (nI_le (by omega) (by omega)) ?_)
      rw [show R = (zs, b) from h.symm] at HK
      refine hdown (W := fun i => hwi (d + 7) zm_X8_years k X 89 [(0, .ref 1046), (3, .int (nI w')), (4, .int (xsum (g1.1 1069) i)), (5, .int (nI i))] g1 e) (n := 4) ?_ ?_ 0 (Nat.zero_le _)
      · rw [b1]
        unfold syv at HK
        refine zh_X8_years_89 (zbr_t (by decide) ⟨fun c => ?_, fun c => ⟨fun c2 => ?_, fun c2 => ?_⟩⟩)
        · rw [if_pos ((nI_eq (b := 0) (by omega) (by omega)).mp c)] at HK
          exact sim_ret s1 HK
        · rw [if_neg (fun z => c (by rw [z]; rfl)), if_pos ((nI_eq (b := 1) (by omega) (by omega)).mp c2)] at HK
          exact cm_allClosed s1.2.2.1 (sim_ret s1 HK)
        · rw [if_neg (fun z => c (by rw [z]; rfl)), if_neg (fun z => c2 (by rw [z]; rfl))] at HK
          exact cm_allGrips s1.2.2.1 (sim_ret s1 HK)
      · intro i hi W
        rw [nI_succ] at W
        refine zh_X8_years_89 (zbr_f (by rw [show (4 : Int32) = nI 4 from rfl]; exact nI_ge hi (by omega)) ⟨nI_in hi (by omega), ?_⟩)
        rw [nI_clamp (by omega)]
        exact W
    | succ l ih =>
      intro j hj zs s b g1 s1 v1 b1 h
      refine zh_X8_years_62 (zbr_f (nI_ge (by omega) (by omega)) (hF _ _ g1 f zs _ _ s1 (fun g2 s2 v2 r2 => ?_)))
      rw [v1] at s2 v2
      refine sim_go1B s2 (by omega) (fun g3 s3 b3 f3 => ?_)
      rw [nI_1]
      exact ih (j + 1) (by omega) _ _ _ g3 s3 (by rw [f3.2.1 51 (by decide)]; exact v2) (by rw [b3, r2, b1]) h
  exact this m 0 (by omega) x.2.1 S 0 _ s1 v1 b1 hR.symm
theorem mq_years (hm : mdr g x) {S n w : Int32} (H : ∀ g' u, fr qL qF g g' → mdr g' x → om c12 (o_years (sch x.1) x S n w) u g' → k u g' e) : hci (d + 8) 328 [.ref 1046, .int S, .int n, .int w] g e k X :=
  mq_yearsG (F := sch x.1) (fun _ _ _ _ _ _ _ hs h => cm_change hs h) hm H
end
