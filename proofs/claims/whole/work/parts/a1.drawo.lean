section
variable {d : Nat} {k : Int32 → hG → hE → Prop} {kv : hG → hE → Prop} {X : Nat → hG → hE → Prop} {g : hG} {e : hE} {T : sT} {t : tok} {L : List tk} {y : sY} {x : sX} {s : sS}
theorem ms_drawer (hm : RM g s) {n : Int32} (H : ∀ g' u, mfr g g' → RM g' (r_drawer s n).2 → om c01 (r_drawer s n).1 u g' → k u g' e) : hci (d + 63) 245 [.ref 1046, .int n] g e k X := by
  obtain ⟨h1, h2, h3, ⟨t1, t2, t3⟩, h5⟩ := id hm
  have out : ¬ isz (s.2.2.2.1.1 + 1) n → hci (d + 62) 215 [.ref 1046, .int 1] (sI g 1046 4 0) e (fun x3 g1 e2 => k x3 g1 e2) X := by
    intro q
    have e1 : r_drawer s n = (.inr 0, s) := by unfold r_drawer; rw [iszb_f (by omega) q]; rfl
    rw [e1] at H
    exact cm_fail (H _ _ (mfr_code.trans mfr_code) (RM_code (RM_code hm)) code_at)
  refine zh_X8_drawer ⟨fun c => out (isz_not (by omega) (.inl c)), fun c => ?_⟩
  rw [sI_at, upd_off _ _ (by decide), t1]
  refine ⟨fun c2 => ?_, fun c2 => out (fun q => ?_)⟩
  case refine_2 =>
    obtain ⟨m, hm', rfl⟩ := q
    exact c2 (nI_le (by omega) (by omega))
  rcases isz_or (show s.2.2.2.1.1 + 1 < 2 ^ 31 by omega) n with q | q | q
  case inr.inl => exact absurd q c
  case inr.inr =>
    exfalso
    have a1 := Int32.le_iff_toInt_le.mp q
    have a2 := Int32.le_iff_toInt_le.mp c2
    rw [nI_toInt (by omega)] at a1 a2
    omega
  obtain ⟨m, hm', rfl⟩ := q
  have em : (nI m).toNatClampNeg = m := nI_clamp (by omega)
  unfold r_drawer at H
  rw [iszb_t (by omega) hm', em, if_pos rfl] at H
  have F1 : fr [] [4, 15, 16, 17, 22, 24] g (sI (sI (sI (sI (sI (sI g 1046 4 0) 1046 15 0) 1046 17 (nI m)) 1046 16 0) 1046 22 0) 1046 24 (-1)) := (((((fr.refl.F (by decide)).F (by decide)).F (by decide)).F (by decide)).F (by decide)).F (by decide)
  have v4 : (sI (sI (sI (sI (sI (sI g 1046 4 0) 1046 15 0) 1046 17 (nI m)) 1046 16 0) 1046 22 0) 1046 24 (-1)).1 1046 4 = 0 := by rw [sI_at, upd_off _ _ (by decide), sI_at, upd_off _ _ (by decide), sI_at, upd_off _ _ (by decide), sI_at, upd_off _ _ (by decide), sI_at, upd_off _ _ (by decide), sI_at, upd_at]
  have v15 : (sI (sI (sI (sI (sI (sI g 1046 4 0) 1046 15 0) 1046 17 (nI m)) 1046 16 0) 1046 22 0) 1046 24 (-1)).1 1046 15 = 0 := by rw [sI_at, upd_off _ _ (by decide), sI_at, upd_off _ _ (by decide), sI_at, upd_off _ _ (by decide), sI_at, upd_off _ _ (by decide), sI_at, upd_at]
  have v17 : (sI (sI (sI (sI (sI (sI g 1046 4 0) 1046 15 0) 1046 17 (nI m)) 1046 16 0) 1046 22 0) 1046 24 (-1)).1 1046 17 = nI m := by rw [sI_at, upd_off _ _ (by decide), sI_at, upd_off _ _ (by decide), sI_at, upd_off _ _ (by decide), sI_at, upd_at]
  have v16 : (sI (sI (sI (sI (sI (sI g 1046 4 0) 1046 15 0) 1046 17 (nI m)) 1046 16 0) 1046 22 0) 1046 24 (-1)).1 1046 16 = 0 := by rw [sI_at, upd_off _ _ (by decide), sI_at, upd_off _ _ (by decide), sI_at, upd_at]
  have v22 : (sI (sI (sI (sI (sI (sI g 1046 4 0) 1046 15 0) 1046 17 (nI m)) 1046 16 0) 1046 22 0) 1046 24 (-1)).1 1046 22 = 0 := by rw [sI_at, upd_off _ _ (by decide), sI_at, upd_at]
  have v24 : (sI (sI (sI (sI (sI (sI g 1046 4 0) 1046 15 0) 1046 17 (nI m)) 1046 16 0) 1046 22 0) 1046 24 (-1)).1 1046 24 = -1 := by rw [sI_at, upd_at]
  generalize sI (sI (sI (sI (sI (sI g 1046 4 0) 1046 15 0) 1046 17 (nI m)) 1046 16 0) 1046 22 0) 1046 24 (-1) = g1 at *
  obtain ⟨T, hT⟩ : ∃ T, T = yT s m := ⟨_, rfl⟩
  rw [← hT] at H
  have T1 : T.1 = m := by rw [hT]; rfl
  have x1 : mtx g1 T := by
    refine ⟨by rw [v17, T1], by omega, fun i hi => ?_⟩
    rw [F1.1 1059 (by decide) (by decide), hT]
    exact t3 i (by omega)
  have d1 : mdr g1 s.1 := mdr_fr F1 (by decide) (by decide) h1
  -- what stays to the end of reading
  have keep : ∀ g', mlf g1 g' → (∀ b, b ∈ [1058, 1059, 1064, 1073, 1074, 1075, 1076, 1081, 1082, 1083, 1084, 1085, 1086, 1087] → g'.1 b = g.1 b) ∧ (∀ k, k ∈ [31, 32, 33, 52, 53, 54] → g'.1 1046 k = g.1 1046 k) ∧ g'.1 1046 4 = 0 ∧ g'.1 1046 15 = 0 ∧ g'.1 1046 24 = -1 ∧ mfr g g' := by
    intro g' f'
    refine ⟨fun b hb => ?_, fun k hk => ?_, by rw [f'.2.1 4 (by decide)]; exact v4, by rw [f'.2.1 15 (by decide)]; exact v15, by rw [f'.2.1 24 (by decide)]; exact v24, ?_⟩
    · have hb' := (show ∀ b, b ∈ [1058, 1059, 1064, 1073, 1074, 1075, 1076, 1081, 1082, 1083, 1084, 1085, 1086, 1087] → ¬ b = 1046 ∧ ¬ (1050 ≤ b ∧ b ≤ 1057) by decide) b hb
      rw [f'.1 b hb'.1 hb'.2, F1.1 b (by simp) hb'.1]
    · rw [f'.2.1 k ((show ∀ k, k ∈ [31, 32, 33, 52, 53, 54] → ¬ k ∈ lF by decide) k hk), F1.2.1 k ((show ∀ k, k ∈ [31, 32, 33, 52, 53, 54] → ¬ k ∈ [4, 15, 16, 17, 22, 24] by decide) k hk)]
    · exact (mfr_fr (by decide) F1).trans (fun b hb => ⟨f'.1 b (by omega) (by omega), by rw [f'.2.2.2.2.2.1], f'.2.2.2.2.2.2 b (by omega)⟩)
  have bad : ∀ q : Nat × Nat, plines T 701 y0 (tkn T 0) = .inr q → ∀ g', mlf g1 g' → mbd g' q.1 q.2 → hwi (d + 62) zm_X8_drawer k X 99 [(0, .ref 1046)] g' e := by
    intro q hq g' f' b'
    rw [hq] at H
    obtain ⟨k1, k2, k4, k15, k24, kf⟩ := keep g' f'
    refine zh_X8_drawer_99 (zbr_f b'.2.1 ?_)
    have q58 : (sI g' 1046 24 (g'.1 1046 23)).1 1058 0 = g'.1 1058 0 := by rw [sI_off _ (by decide)]
    have e22 : (sI (sI g' 1046 24 (g'.1 1046 23)) 1058 0 ((sI g' 1046 24 (g'.1 1046 23)).1 1058 0 + 1)).1 1046 22 = nI q.1 := by rw [sI_off _ (by decide), sI_at, upd_off _ _ (by decide)]; exact b'.1
    rw [e22]
    have S1 : RM (sI g' 1046 24 (g'.1 1046 23)) (s.1, s.2.1, s.2.2.1, (0, s.2.2.2.1.2), nI q.2) := by
      have o : ∀ b, b ∈ [1058, 1059, 1064, 1073, 1074, 1075, 1076, 1081, 1082, 1083, 1084, 1085, 1086, 1087] → (sI g' 1046 24 (g'.1 1046 23)).1 b = g.1 b := fun b hb => by
        rw [sI_off _ (by rintro rfl; exact absurd hb (by decide))]; exact k1 b hb
      have o2 : ∀ k, k ∈ [31, 32, 33, 52, 53, 54] → (sI g' 1046 24 (g'.1 1046 23)).1 1046 k = g.1 1046 k := fun k hk => by
        rw [sI_at, upd_off _ _ (by rintro rfl; exact absurd hk (by decide))]; exact k2 k hk
      refine ⟨mdr_fr (L := []) (F := [24]) (fr.refl.F (by decide)) (by decide) (by decide) (mdr_mlf f' d1), ?_, mkp_cg (g := g) (o2 52 (by decide)) (o2 53 (by decide)) (o2 54 (by decide)) (fun b hb hb' => o b ?_) h3, ⟨?_, Nat.zero_le _, fun i hi => absurd hi (Nat.not_lt_zero _)⟩, ?_⟩
      · rw [o2 32 (by decide), o2 33 (by decide), o 1064 (by decide), o 1073 (by decide), o 1074 (by decide), o 1075 (by decide), o 1076 (by decide), o 1058 (by decide)]
        exact h2
      · simp only [List.mem_cons, List.not_mem_nil, or_false]; omega
      · rw [sI_at, upd_off _ _ (by decide)]; exact k15
      · rw [sI_at, upd_at]; exact b'.2.2
    refine H _ _ (kf.trans (mfr_fr (L := [1058]) (F := [24]) (by decide) ((fr.refl.F (by decide)).I (by decide) (by decide)))) (RM_ref (j := 0) S1 (by omega)) ⟨rfl, ?_⟩
    rw [sI_off _ (by decide), sI_at, upd_off _ _ (by decide)]; exact k4
  have good : ∀ y1 n1, plines T 701 y0 (tkn T 0) = .inl y1 → wfy y1 n1 → n1 ≤ 700 → ∀ g', mlf g1 g' → msc g' y1 → g'.1 1046 22 = 0 → hwi (d + 62) zm_X8_drawer k X 99 [(0, .ref 1046)] g' e := by
    intro y1 n1 hq wf hn1 g' f' c' z'
    rw [hq] at H
    obtain ⟨k1, k2, k4, k15, k24, kf⟩ := keep g' f'
    refine zh_X8_drawer_99 (zbr_t z' (m_takeOver c' wf hn1 (fun g2 f2 d2 w32 w33 w52 => ?_)))
    refine H g2 0 (kf.trans (mfr_fr (by decide) f2)) ⟨d2, ⟨⟨w32, Nat.zero_le _, fun i P h => by cases h⟩, ⟨⟨w33, fun i w h => by cases h⟩, Nat.zero_le _, fun w h => by cases h⟩, fun j hj => ?_⟩, w52, ⟨?_, Nat.zero_le _, fun i hi => absurd hi (Nat.not_lt_zero _)⟩, ?_⟩ ⟨rfl, ?_⟩
    · rw [f2.1 1058 (by decide) (by decide), k1 1058 (by decide)]; exact h2.2.2 j hj
    · rw [f2.2.1 15 (by decide)]; exact k15
    · rw [f2.2.1 24 (by decide)]; exact k24
    · rw [f2.2.1 4 (by decide)]; exact k4
  have lines : ∀ f t2 y2 g2, 701 ≤ t2.2.1 + f → mlf g1 g2 → msy g2 T t2 y2 → plines T f y2 t2 = plines T 701 y0 (tkn T 0) → hwi (d + 62) zm_X8_drawer k X 76 [(0, .ref 1046), (2, .int (nI (dn y2)))] g2 e := by
    obtain ⟨V, hV⟩ : ∃ V, V = plines T 701 y0 (tkn T 0) := ⟨_, rfl⟩
    rw [← hV] at bad good ⊢
    intro f
    induction f with
    | zero =>
      intro t2 y2 g2 hf f2 S2
      have := wtk_b S2.2.1
      exact absurd hf (by omega)
    | succ f ih =>
      intro t2 y2 g2 hf f2 S2 hp
      have hw := S2.2.1
      have w4 := hw.2.2.2.1
      have wb := wtk_b hw
      unfold plines at hp
      refine zh_X8_drawer_76 (zbr_t S2.1.2.2.2.2.2.2 ?_)
      rw [S2.1.2.1]
      by_cases c0 : t2.1 = 0
      · rw [if_pos c0] at hp
        exact zbr_t (by rw [c0]; rfl) (good y2 t2.2.1 hp.symm S2.2.2.1 (by omega) g2 f2 S2.2.2.2 S2.1.2.2.2.2.2.2)
      · rw [if_neg c0] at hp
        refine zbr_f (nI_ne0 (by omega) (by omega)) (m_line S2 c0 ?_)
        have gp := pline_gd hw c0 S2.2.2.1
        cases hq : pline T y2 t2 with
        | inl q =>
          rw [hq] at hp gp
          exact fun g3 f3 S3 => ih q.1 q.2 g3 (by have := gp.2.1; omega) (f2.trans f3) S3 hp
        | inr q =>
          rw [hq] at hp
          exact fun g3 v f3 b3 => zh_X8_drawer_76 (zbr_f b3.2.1 (bad q hp.symm g3 (f2.trans f3) b3))
  have zero : ∀ i, i ≤ 4 → ∀ g2, mlf g1 g2 → g2.1 1046 = g1.1 1046 → g2.1 1059 = g1.1 1059 → (∀ j, j < i → g2.1 1050 (4 + j) = 0) → hwi (d + 62) zm_X8_drawer k X 50 [(0, .ref 1046), (2, .int (nI i))] g2 e := by
    refine hdown ?_ ?_
    · intro g2 f2 q6 q9 A
      have x2 : mtx g2 T := by unfold mtx; rw [q6, q9]; exact x1
      refine zh_X8_drawer_50 (zbr_t (by decide) (cm_stepOn x2 (b := 0) (Nat.zero_le _) (by rw [q6]; exact v16) (by rw [q6]; exact v22) (fun g3 f3 m3 => ?_)))
      have q3 : ∀ b, ¬ b = 1046 → g3.1 b = g2.1 b := fun b hb => f3.1 b (by simp) hb
      have tw := tkn_w (T := T) (b := 0) (Nat.zero_le _)
      refine lines 701 _ y0 g3 (by omega) (f2.trans (mlf_p (f3.sub (by decide) (by decide)))) ⟨m3, tw.1, ⟨⟨Nat.zero_le _, fun q h => by cases h⟩, ⟨Nat.zero_le _, fun v h => by cases h⟩, ⟨fun h => absurd rfl h, fun h => absurd rfl h⟩, Nat.zero_le _⟩, ⟨?_, fun i q h => by cases h⟩, ⟨?_, fun j v h => by cases h⟩, ⟨?_, fun j c h => by cases h⟩, ⟨?_, fun j c h => by cases h⟩⟩ rfl
      · rw [q3 1050 (by decide)]; exact A 0 (by omega)
      · rw [q3 1050 (by decide)]; exact A 1 (by omega)
      · rw [q3 1050 (by decide)]; exact A 2 (by omega)
      · rw [q3 1050 (by decide)]; exact A 3 (by omega)
    · intro i hi W g2 f2 q6 q9 A
      refine zh_X8_drawer_50 (zbr_f (by rw [show (4 : Int32) = nI 4 from rfl]; exact nI_ge hi (by omega)) ?_)
      rw [show (4 : Int32) = nI 4 from rfl, nI_add, nI_clamp (show 4 + i < 2 ^ 31 by omega), nI_1]
      have qq : ∀ b, ¬ b = 1050 → (sI g2 1050 (4 + i) 0).1 b = g2.1 b := fun b hb => sI_off _ hb
      refine ⟨nI_in (by omega) (by omega), W _ (f2.trans ⟨fun b _ x => qq b (by omega), fun k _ => by rw [qq 1046 (by omega)], fun k hk => ⟨by rw [sI_at, upd_off _ _ (by omega)], by rw [qq 1051 (by omega)], by rw [qq 1052 (by omega)]⟩, fun k _ => by rw [qq 1055 (by omega)], fun k _ => ⟨by rw [qq 1056 (by omega)], by rw [qq 1057 (by omega)]⟩, rfl, fun _ _ => rfl⟩) (by rw [qq 1046 (by omega)]; exact q6) (by rw [qq 1059 (by omega)]; exact q9) (fun j hj => ?_)⟩
      rw [sI_at]
      by_cases c : j = i
      · subst c; rw [upd_at]
      · rw [upd_off _ _ (by omega)]; exact A j (by omega)
  exact zero 0 (by omega) g1 mlf.refl rfl rfl (fun j h => absurd h (Nat.not_lt_zero _))
end
