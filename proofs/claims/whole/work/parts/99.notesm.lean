/-! forced in the model -/
def ntm (g : hG) (nt : List sN) : Prop := g.1 1046 33 = nI nt.length ∧ ∀ i n, nt[i]? = some n → g.1 1073 i = nI n.1 ∧ g.1 1074 i = nI n.2.1 ∧ g.1 1075 i = nI n.2.2.1 ∧ g.1 1076 i = nI n.2.2.2
abbrev iL : List Nat := [1060, 1061, 1062, 1063, 1065, 1066, 1067, 1068, 1069, 1077]
def nmx (nt : List sN) : Nat → Nat
  | 0 => 0
  | j + 1 => match nt[j]? with
    | some n => max (nmx nt j) n.2.2.1
    | none => nmx nt j
section
variable {d : Nat} {k : Int32 → hG → hE → Prop} {kv : hG → hE → Prop} {X : Nat → hG → hE → Prop} {g : hG} {e : hE} {x : sX} {nt : List sN}
theorem ntm_fr {L F : List Nat} {g' : hG} (h : fr L F g g') (h1 : ∀ b, b ∈ [1073, 1074, 1075, 1076] → ¬ b ∈ L) (h2 : ¬ 33 ∈ F) (hn : ntm g nt) : ntm g' nt := by
  unfold ntm
  rw [h.2.1 33 h2, h.1 1073 (h1 _ (by decide)) (by decide), h.1 1074 (h1 _ (by decide)) (by decide), h.1 1075 (h1 _ (by decide)) (by decide), h.1 1076 (h1 _ (by decide)) (by decide)]
  exact hn
theorem nmx_ge : ∀ (j i : Nat) (n : sN), i < j → nt[i]? = some n → n.2.2.1 ≤ nmx nt j
  | j + 1, i, n, hi, hn => by
    unfold nmx
    by_cases c : i = j
    · subst c
      rw [hn]
      exact Nat.le_max_right _ _
    · have ih := nmx_ge j i n (by omega) hn
      split
      · omega
      · exact ih
theorem nmx_le (hw : wfn x.1 nt) : ∀ j, nmx nt j ≤ 20
  | 0 => by show 0 ≤ _; omega
  | j + 1 => by
    have ih := nmx_le hw j
    unfold nmx
    split
    · rename_i n hn
      have := (hw.2 n (List.mem_of_getElem? hn)).2.2.1
      omega
    · exact ih
theorem cm_isAsSeen (hm : mdr g x) (hn : ntm g nt) (hw : wfn x.1 nt) (H : ∀ g', fr iL [31] g g' → mdr g' x → k (bI (nall x nt)) g' e) : hci (d + 7) 318 [.ref 1046] g e k X := by
  have hl := hw.1
  have h4 := hm.1.1.2
  have ht := hm.2.2.2.2
  refine zh_X8_isAsSeen (cm_pack (o := 0) (show hT 1077 = some (.inl (0, 137)) from rfl) (by decide) (by decide) (by decide) (fun f pf _ => ?_))
  have f0 : fr iL [31] g (aI g 1077 f) := fr_aI (by decide) (by decide)
  have m0 : mdr (aI g 1077 f) x := mdr_fr (L := [1077]) (F := []) (fr_aI (by decide) (by decide)) (by decide) (by decide) hm
  have r0 : (aI g 1077 f).1 1077 = f := aI1 _ _ _
  generalize aI g 1077 f = g0 at *
  have lb := nmx_le hw nt.length
  have lg : ∀ n, n ∈ nt → n.2.2.1 ≤ nmx nt nt.length := by
    intro n hm
    obtain ⟨i, hi⟩ := List.getElem?_of_mem hm
    exact nmx_ge nt.length i n (List.getElem?_eq_some_iff.mp hi).1 hi
  have ret : ∀ (v : Int32) (g1 : hG), fr iL [31] g g1 → g1.1 1077 = f → (v = 0 ∨ v = 1) → v = bI (nall x nt) → hcv (d + 6) 250 [.ref 1046, .ref 1077, .int 0] g1 e (fun g1 e2 => (v = 0 ∨ v = 1) ∧ k v g1 e2) X := by
    intro v g1 f1 r1 hv hv2
    refine cm_unpack (o := 0) (show hT 1077 = some (.inl (0, 137)) from rfl) (by decide) (by decide) (by decide) (fun g2 f2 p2 => ⟨hv, ?_⟩)
    rw [r1] at p2
    have f3 : fr iL [31] g g2 := f1.trans (f2.sub (by decide) (by decide))
    rw [hv2]
    exact H g2 f3 (mdr_pk hm f3 (by decide) pf p2)
  have days : ∀ b, b ≤ nmx nt nt.length + 1 → ∀ g1, fr iL [31] g g1 → g1.1 1077 = f → ms g1 x.1 (fun z => xgo x b x.2.2.2.2.2 (x.2.1 z)) → g1.1 1046 31 = nI (x.2.2.2.2.2 + b) → (∀ n, n ∈ nt → n.2.2.1 < b → nok x n) → hwi (d + 6) zm_X8_isAsSeen k X 42 [(0, .ref 1046), (1, .int (nI (nmx nt nt.length))), (2, .int 1), (3, .int (nI b))] g1 e := by
    refine hdown ?_ ?_
    · intro g1 f1 r1 _ _ A
      refine zh_X8_isAsSeen_42 (zbr_t (nI_lt (by omega) (by omega)) (ret 1 g1 f1 r1 (.inr rfl) ?_))
      rw [nall_t.mpr (fun n hm => A n hm (by have := lg n hm; omega))]
      rfl
    · intro b hb W g1 f1 r1 m1 t1 A
      have hn1 := ntm_fr f1 (by decide) (by decide) hn
      have hr1 := mrls_fr f1 (by decide) (by decide) (by decide) hm.2.1
      have hs1 := mst_fr f1 (by decide) (by decide) hm.2.2.1
      refine zh_X8_isAsSeen_42 (zbr_f (nI_nlt (by omega) (by omega)) (zbr_f (by decide) ?_))
      have go : ∀ fl : Bool, ((fl = true ∧ ∀ n, n ∈ nt → n.2.2.1 = b → nok x n) ∨ (fl = false ∧ ∃ n, n ∈ nt ∧ ¬ nok x n)) → hcv (d + 6) 265 [.ref 1046, .int 1] g1 e (fun g1 e2 => hwi (d + 6) zm_X8_isAsSeen k X 42 [(0, .ref 1046), (1, .int (nI (nmx nt nt.length))), (2, .int (bI fl)), (3, .int (nI b + 1))] g1 e2) X := by
        intro fl hfl
        refine cm_go1 m1 hr1 hs1 t1 (by omega) (fun g2 f2 m2 t2 => ?_)
        have f3 : fr iL [31] g g2 := f1.trans (f2.sub (by decide) (by decide))
        have r3 : g2.1 1077 = f := by rw [f2.1 1077 (by decide) (by decide)]; exact r1
        rw [nI_1]
        rcases hfl with ⟨rfl, hok⟩ | ⟨rfl, n, y1, y2⟩
        · refine W g2 f3 r3 ?_ (by rw [t2]; rfl) (fun n hm hlt => ?_)
          · have := ms_mx f2 (by decide) m1 m2 (fun z hz => sok_day (m1.2 z hz).2)
            refine ⟨this.1, fun z hz => ?_⟩
            show mz g2 z (sgo _ _ _ _ _ _) ∧ sok (sgo _ _ _ _ _ _)
            rw [sgo_end]
            exact this.2 z hz
          · by_cases c : n.2.2.1 = b
            · exact hok n hm c
            · exact A n hm (by omega)
        · have hv : (0 : Int32) = bI (nall x nt) := by
            cases q : nall x nt with
            | false => rfl
            | true => exact absurd (nall_t.mp q n y1) y2
          exact zh_X8_isAsSeen_42 ⟨fun _ => ret 0 g2 f3 r3 (.inl rfl) hv, fun _ => zbr_t rfl (ret 0 g2 f3 r3 (.inl rfl) hv)⟩
      have inner : ∀ j, j ≤ nt.length → ∀ fl : Bool, ((fl = true ∧ ∀ i n, i < j → nt[i]? = some n → n.2.2.1 = b → nok x n) ∨ (fl = false ∧ ∃ n, n ∈ nt ∧ ¬ nok x n)) → hwi (d + 6) zm_X8_isAsSeen k X 54 [(0, .ref 1046), (1, .int (nI (nmx nt nt.length))), (2, .int (bI fl)), (3, .int (nI b)), (4, .int (nI j))] g1 e := by
        refine hdown ?_ ?_
        · intro fl hfl
          refine zh_X8_isAsSeen_54 (zbr_t (by rw [hn1.1]; exact nI_le (Nat.le_refl _) (by omega)) (go fl ?_))
          rcases hfl with ⟨h1, h2⟩ | h
          · refine .inl ⟨h1, fun n hm hb => ?_⟩
            obtain ⟨i, hi⟩ := List.getElem?_of_mem hm
            exact h2 i n (List.getElem?_eq_some_iff.mp hi).1 hi hb
          · exact .inr h
        · intro j hj W2 fl hfl
          have hg : nt[j]? = some nt[j] := List.getElem?_eq_getElem hj
          have hmj : nt[j] ∈ nt := List.getElem_mem hj
          obtain ⟨u1, u2, u3, u5⟩ := hw.2 _ hmj
          refine zh_X8_isAsSeen_54 (zbr_f (by rw [hn1.1]; exact nI_ge hj (by omega)) ?_)
          rw [nI_1]
          rcases hfl with ⟨rfl, h2⟩ | ⟨rfl, h2⟩
          · refine zbr_f (by decide) ⟨nI_in (by omega) (by omega), ?_⟩
            obtain ⟨v1, v2, v3, v5⟩ := hn1.2 j _ hg
            rw [nI_clamp (show j < 2 ^ 31 by omega), v1, v2, v3]
            have yes : ((nt[j]).2.2.1 = b → nok x nt[j]) → hwi (d + 6) zm_X8_isAsSeen k X 54 [(0, .ref 1046), (1, .int (nI (nmx nt nt.length))), (2, .int 1), (3, .int (nI b)), (4, .int (nI (j + 1)))] g1 e := by
              intro h
              refine W2 true (.inl ⟨rfl, fun i n hi hin hb => ?_⟩)
              by_cases c : i = j
              · subst c
                rw [hg] at hin
                rw [← Option.some.inj hin] at hb ⊢
                exact h hb
              · exact h2 i n (by omega) hin hb
            refine ⟨fun c => ⟨nI_in (by omega) (by omega), nI_in (by omega) (by omega), nI_in (by omega) (by omega), ?_⟩, fun c => yes (fun q => absurd (by rw [q]) c)⟩
            have hb : (nt[j]).2.2.1 = b := (nI_eq (by omega) (by omega)).mp c
            rw [nI_clamp (by omega), (m1.2 _ u1).1.2.2.2.2.1]
            refine cm_isOf (by omega) ⟨nI_in (by omega) (by omega), ?_⟩
            rw [v5]
            have hk : nok x nt[j] ↔ bt (xgo x b x.2.2.2.2.2 (x.2.1 (nt[j]).1)).2.2.2.2.1 (nt[j]).2.1 = decide ((nt[j]).2.2.2 = 1) := by
              unfold nok
              rw [hb]
            have no : ¬ nok x nt[j] → hwi (d + 6) zm_X8_isAsSeen k X 54 [(0, .ref 1046), (1, .int (nI (nmx nt nt.length))), (2, .int 0), (3, .int (nI b)), (4, .int (nI (j + 1)))] g1 e := fun h => W2 false (.inr ⟨rfl, _, hmj, h⟩)
            rcases (show (nt[j]).2.2.2 = 0 ∨ (nt[j]).2.2.2 = 1 by omega) with q | q
            · rw [q] at hk ⊢
              refine zbr_f (by decide) ?_
              cases z : bt (xgo x b x.2.2.2.2.2 (x.2.1 (nt[j]).1)).2.2.2.2.1 (nt[j]).2.1 with
              | false => exact zbr_t rfl (yes (fun _ => hk.mpr (by rw [z]; rfl)))
              | true => exact zbr_f (by decide) (no (fun y => absurd (hk.mp y) (by rw [z]; decide)))
            · rw [q] at hk ⊢
              refine zbr_t rfl ?_
              cases z : bt (xgo x b x.2.2.2.2.2 (x.2.1 (nt[j]).1)).2.2.2.2.1 (nt[j]).2.1 with
              | false => exact zbr_f (by decide) (no (fun y => absurd (hk.mp y) (by rw [z]; decide)))
              | true => exact zbr_t rfl (yes (fun _ => hk.mpr (by rw [z]; rfl)))
          · exact zbr_t rfl (W2 false (.inr ⟨rfl, h2⟩))
      exact inner 0 (Nat.zero_le _) true (.inl ⟨rfl, fun i n h => absurd h (Nat.not_lt_zero _)⟩)
  have fst : hwi (d + 6) zm_X8_isAsSeen k X 13 [(0, .ref 1046), (1, .int (nI (nmx nt 0))), (2, .int (nI 0))] g0 e := by
    have hn0 := ntm_fr f0 (by decide) (by decide) hn
    refine hdown (W := fun j => hwi (d + 6) zm_X8_isAsSeen k X 13 [(0, .ref 1046), (1, .int (nI (nmx nt j))), (2, .int (nI j))] g0 e) (n := nt.length) ?_ ?_ 0 (Nat.zero_le _)
    · refine zh_X8_isAsSeen_13 (zbr_t (by rw [hn0.1]; exact nI_le (Nat.le_refl _) (by omega)) ?_)
      exact days 0 (by omega) g0 f0 r0 m0.1 (by rw [m0.2.2.2.1]; rfl) (fun n _ h => absurd h (Nat.not_lt_zero _))
    · intro j hj W
      have hg : nt[j]? = some nt[j] := List.getElem?_eq_getElem hj
      have hmj : nt[j] ∈ nt := List.getElem_mem hj
      have b1 := nmx_le hw j
      obtain ⟨u1, u2, u3, u5⟩ := hw.2 _ hmj
      refine zh_X8_isAsSeen_13 (zbr_f (by rw [hn0.1]; exact nI_ge hj (by omega)) ⟨nI_in (by omega) (by omega), c_max ?_⟩)
      rw [nI_clamp (by omega), (hn0.2 j _ hg).2.2.1, imx_nI (by omega) (by omega), nI_1]
      have un : nmx nt (j + 1) = max (nmx nt j) (nt[j]).2.2.1 := by
        show (match nt[j]? with | some n => max (nmx nt j) n.2.2.1 | none => nmx nt j) = _
        rw [hg]
      rw [un] at W
      exact W
  exact fst
/-- the fits -/
abbrev fL : List Nat := [1060, 1061, 1062, 1063, 1065, 1066, 1067, 1068, 1069, 1077, 1078]
def ftm (g : hG) (fl : List Nat) : Prop := g.1 1046 49 = nI fl.length ∧ ∀ i c, fl[i]? = some c → g.1 1078 i = nI c
theorem mst_set {g' : hG} {sl : List Nat} {w o : Nat} (hs : mst g sl) (hw : w < sl.length) (ho : o ≤ 9) (h1 : g'.1 1050 = g.1 1050) (h2 : ∀ i, ¬ i = w → g'.1 1055 i = g.1 1055 i) (h3 : g'.1 1055 w = nI o) : mst g' (sl.set w o) := by
  obtain ⟨a1, a2, a3, a4⟩ := hs
  refine ⟨by rw [h1, List.length_set]; exact a1, by rw [List.length_set]; exact a2, fun j v hj => ?_, fun v hv => ?_⟩
  · by_cases c : j = w
    · subst c
      rw [List.getElem?_set_self hw] at hj
      rw [h3, Option.some.inj hj]
    · rw [List.getElem?_set_ne (fun z => c z.symm)] at hj
      rw [h2 j c]
      exact a3 j v hj
  · rcases List.mem_or_eq_of_mem_set hv with h | h
    · exact a4 v h
    · omega
theorem cm_tellFits (hm : mdr g x) (hn : ntm g nt) (hw : wfn x.1 nt) (H : ∀ g', fr fL [31, 49] g g' → mdr g' x → ftm g' (sfl x nt (10 * x.2.2.1.length)) → kv g' e) : hcv (d + 8) 319 [.ref 1046] g e kv X := by
  have h4 := hm.1.1.2
  obtain ⟨a1, a2, a3, a4⟩ := hm.2.2.1
  refine zh_X8_tellFits ?_
  have outer : ∀ w, w ≤ x.2.2.1.length → ∀ g1, fr fL [31, 49] g g1 → mdr g1 x → ftm g1 (sfl x nt (10 * w)) → hwv (d + 7) zm_X8_tellFits kv X 7 [(0, .ref 1046), (1, .int (nI w))] g1 e := by
    refine hdown ?_ ?_
    · intro g1 f1 m1 t1
      exact zh_X8_tellFits_7 (zbr_t (by rw [m1.2.2.1.1]; exact nI_le (Nat.le_refl _) (by omega)) (H g1 f1 m1 t1))
    · intro w hwl W g1 f1 m1 t1
      have gq : x.2.2.1[w]? = some x.2.2.1[w] := List.getElem?_eq_getElem hwl
      have v9 : x.2.2.1[w] ≤ 9 := a4 _ (List.getElem_mem hwl)
      have ew : (nI w).toNatClampNeg = w := nI_clamp (by omega)
      have h16 : hin (nI w) 16 := nI_in (by omega) (by omega)
      refine zh_X8_tellFits_7 (zbr_f (by rw [m1.2.2.1.1]; exact nI_ge hwl (by omega)) ⟨h16, ?_⟩)
      rw [ew, m1.2.2.1.2.2.1 w _ gq]
      have inner : ∀ o, o ≤ 10 → ∀ g2, fr (1055 :: fL) [31, 49] g1 g2 → (∀ i, ¬ i = w → g2.1 1055 i = g1.1 1055 i) → ms g2 x.1 x.2.1 → g2.1 1046 31 = nI x.2.2.2.2.2 → ftm g2 (sfl x nt (10 * w + o)) → hwv (d + 7) zm_X8_tellFits kv X 26 [(0, .ref 1046), (1, .int (nI w)), (2, .int (nI x.2.2.1[w])), (3, .int (nI o))] g2 e := by
        refine hdown ?_ ?_
        · intro g2 f2 o2 m2 d2 t2
          refine zh_X8_tellFits_26 (zbr_t (by decide) ⟨h16, ?_⟩)
          rw [ew, nI_1]
          have back : (sI g2 1055 w (nI x.2.2.1[w])).1 1055 = g1.1 1055 := by
            rw [sI_at]
            funext i
            by_cases c : i = w
            · subst c
              rw [upd_at]
              exact (m1.2.2.1.2.2.1 i _ gq).symm
            · rw [upd_off _ _ c]; exact o2 i c
          have f3 : fr fL [31, 49] g1 (sI g2 1055 w (nI x.2.2.1[w])) := by
            refine ⟨fun b h1 h2 => ?_, fun q hq => ?_, f2.2.2⟩
            · by_cases c : b = 1055
              · subst c; exact back
              · rw [sI_off _ c]
                exact f2.1 b (fun z => (List.mem_cons.mp z).elim c h1) h2
            · rw [sI_off _ (by decide)]; exact f2.2.1 q hq
          refine W _ (f1.trans f3) ⟨?_, mrls_fr f3 (by decide) (by decide) (by decide) m1.2.1, mst_fr f3 (by decide) (by decide) m1.2.2.1, ?_, m1.2.2.2.2⟩ ?_
          · exact ⟨⟨by rw [sI_off _ (by decide)]; exact m2.1.1, h4⟩, fun z hz => ⟨mz_cg (m2.2 z hz).1 (sI_off _ (by decide)) (sI_off _ (by decide)) (sI_off _ (by decide)) (sI_off _ (by decide)) (sI_off _ (by decide)) (sI_off _ (by decide)), (m2.2 z hz).2⟩⟩
          · rw [sI_off _ (by decide)]; exact d2
          · unfold ftm
            rw [sI_off _ (by decide), sI_off _ (by decide), show 10 * (w + 1) = 10 * w + 10 by omega]
            exact t2
        · intro o ho W2 g2 f2 o2 m2 d2 t2
          refine zh_X8_tellFits_26 (zbr_f (by rw [show (9 : Int32) = nI 9 from rfl]; exact nI_nlt (by omega) (by omega)) ⟨h16, ?_⟩)
          rw [ew, nI_1]
          have f3 : fr (1055 :: fL) [31, 49] g1 (sI g2 1055 w (nI o)) := f2.I (by decide) (by decide)
          have o3 : ∀ i, ¬ i = w → (sI g2 1055 w (nI o)).1 1055 i = g1.1 1055 i := fun i hi => by rw [sI_at, upd_off _ _ hi]; exact o2 i hi
          have m3 : ms (sI g2 1055 w (nI o)) x.1 x.2.1 := ⟨⟨by rw [sI_off _ (by decide)]; exact m2.1.1, h4⟩, fun z hz => ⟨mz_cg (m2.2 z hz).1 (sI_off _ (by decide)) (sI_off _ (by decide)) (sI_off _ (by decide)) (sI_off _ (by decide)) (sI_off _ (by decide)) (sI_off _ (by decide)), (m2.2 z hz).2⟩⟩
          have d3 : (sI g2 1055 w (nI o)).1 1046 31 = nI x.2.2.2.2.2 := by rw [sI_off _ (by decide)]; exact d2
          have t3 : ftm (sI g2 1055 w (nI o)) (sfl x nt (10 * w + o)) := by
            unfold ftm
            rw [sI_off _ (by decide), sI_off _ (by decide)]
            exact t2
          have v3 : (sI g2 1055 w (nI o)).1 1055 w = nI o := by rw [sI_at, upd_at]
          generalize sI g2 1055 w (nI o) = g3 at *
          have q1 : (10 * w + o) / 10 = w := by omega
          have q2 : (10 * w + o) % 10 = o := by omega
          have un : sfl x nt (10 * w + (o + 1)) = if sfo x nt (10 * w + o) = true then sfl x nt (10 * w + o) ++ [10 * w + o] else sfl x nt (10 * w + o) := rfl
          have us : sfo x nt (10 * w + o) = (!decide (x.2.2.1[w] = o) && nall (xso x (10 * w + o)) nt) := by
            unfold sfo
            rw [q1, q2, List.getD_eq_getElem?_getD, gq]
            rfl
          refine ⟨fun c => ?_, fun c => ?_⟩
          · have e1 : sfo x nt (10 * w + o) = false := by
              rw [us, decide_eq_true ((nI_eq (by omega) (by omega)).mp c).symm]
              rfl
            rw [e1, if_neg Bool.false_ne_true] at un
            exact W2 g3 f3 o3 m3 d3 (by rw [un]; exact t3)
          · have e1 : sfo x nt (10 * w + o) = nall (xso x (10 * w + o)) nt := by
              rw [us, decide_eq_false (fun z => c (by rw [z]))]
              rfl
            have mm : mdr g3 (xso x (10 * w + o)) := by
              refine ⟨m3, mrls_fr f3 (by decide) (by decide) (by decide) m1.2.1, ?_, d3, m1.2.2.2.2⟩
              show mst g3 (x.2.2.1.set ((10 * w + o) / 10) ((10 * w + o) % 10))
              rw [q1, q2]
              exact mst_set m1.2.2.1 hwl (by omega) (f3.1 1050 (by decide) (by decide)) o3 v3
            have n3 : ntm g3 nt := ntm_fr f3 (by decide) (by decide) (ntm_fr f1 (by decide) (by decide) hn)
            refine cm_isAsSeen mm n3 hw (fun g4 f4 m4 => ?_)
            have f5 : fr (1055 :: fL) [31, 49] g1 g4 := f3.trans (f4.sub (by decide) (by decide))
            have o5 : ∀ i, ¬ i = w → g4.1 1055 i = g1.1 1055 i := fun i hi => by rw [f4.1 1055 (by decide) (by decide)]; exact o3 i hi
            have t5 : ftm g4 (sfl x nt (10 * w + o)) := by
              unfold ftm
              rw [f4.2.1 49 (by decide), f4.1 1078 (by decide) (by decide)]
              exact t3
            rw [← e1]
            cases s : sfo x nt (10 * w + o) with
            | false =>
              rw [s, if_neg Bool.false_ne_true] at un
              exact zbr_t rfl (W2 g4 f5 o5 m4.1 m4.2.2.2.1 (by rw [un]; exact t5))
            | true =>
              rw [s, if_pos rfl] at un
              have lj := sfl_le (x := x) (nt := nt) (10 * w + o)
              refine zbr_f (by decide) ?_
              rw [t5.1, nI_clamp (by omega)]
              refine ⟨nI_in (by omega) (by omega), ?_⟩
              rintro g5 rfl
              rw [show (10 : Int32) = nI 10 from rfl, pk_mul, nI_add, sI_off g4 (show ¬ 1046 = 1078 by decide), t5.1, nI_1]
              refine W2 _ ((f5.I (by decide) (by decide)).F (by decide)) ?_ ?_ ?_ ?_
              · intro i hi
                rw [sI_off _ (by decide), sI_off _ (by decide)]; exact o5 i hi
              · exact ⟨⟨by rw [sI_off _ (by decide), sI_off _ (by decide)]; exact m4.1.1.1, h4⟩, fun z hz => ⟨mz_cg (m4.1.2 z hz).1 rfl rfl rfl rfl rfl rfl, (m4.1.2 z hz).2⟩⟩
              · rw [sI_at, upd_off _ _ (by decide), sI_off _ (by decide)]; exact m4.2.2.2.1
              · rw [un]
                unfold ftm
                rw [List.length_append, sI_at, upd_at, sI_off _ (by decide)]
                refine ⟨rfl, fun i c hi => ?_⟩
                rw [sI_at]
                by_cases ci : i = (sfl x nt (10 * w + o)).length
                · subst ci
                  rw [List.getElem?_append_right (Nat.le_refl _), Nat.sub_self] at hi
                  rw [upd_at, ← Option.some.inj hi]
                · have hlt : i < (sfl x nt (10 * w + o)).length := by
                    have := (List.getElem?_eq_some_iff.mp hi).1
                    rw [List.length_append] at this
                    have : i < (sfl x nt (10 * w + o)).length + 1 := this
                    omega
                  rw [List.getElem?_append_left hlt] at hi
                  rw [upd_off _ _ ci]
                  exact t5.2 i c hi
      exact inner 0 (by omega) g1 fr.refl (fun _ _ => rfl) m1.1 m1.2.2.2.1 t1
  refine outer 0 (Nat.zero_le _) _ (fr.refl.F (by decide)) (mdr_fr (L := []) (F := [49]) (fr.refl.F (by decide)) (by decide) (by decide) hm) ⟨?_, fun i c h => ?_⟩
  · rw [sI_at, upd_at]; rfl
  · cases h
theorem mq_forced (hm : mdr g x) (hn : ntm g nt) (hw : wfn x.1 nt) {w : Int32} (H : ∀ g' u, fr qL qF g g' → mdr g' x → om c12 (o_forced x nt w) u g' → k u g' e) : hci (d + 9) 320 [.ref 1046, .int w] g e k X := by
  have h4 := hm.1.1.2
  have a2 := hm.2.2.1.2.1
  have hm0 : mdr (sI g 1046 4 0) x := mdr_code hm
  refine zh_X8_forced (cm_isInR (a := 0) (b := 2) (by omega) (by omega) (by decide) (by decide) (fun v _ hv hv' => zbr_f (by decide) ?_) (fun h => zbr_t rfl (cm_failQ (cd := c12) (n := 1) hm0 fr_code (by
    unfold o_forced
    rw [iszb_f (n := 3) (by omega) (fun z => h (by obtain ⟨i, hi, e⟩ := z; exact ⟨i, by omega, by omega, e⟩))]
    rfl) H)))
  subst hv'
  have ho : o_forced x nt (nI v) = .inl (if nI v = 2 then bI (nall x nt) else if nI v = 0 then nI (sfl x nt (10 * x.2.2.1.length)).length else match (sfl x nt (10 * x.2.2.1.length)).head? with
    | none => -1
    | some c => nI c) := by
    unfold o_forced
    rw [iszb_t (n := 3) (by omega) (by omega)]
    rfl
  have K := mqk_in ho H
  have c0 : (sI g 1046 4 0).1 1046 4 = 0 := code_at
  have n0 : ntm (sI g 1046 4 0) nt := ntm_fr (L := []) (F := [4]) (fr.refl.F (by decide)) (by decide) (by decide) hn
  clear H
  generalize sI g 1046 4 0 = g0 at *
  refine ⟨fun c => cm_isAsSeen hm0 n0 hw (fun g1 f1 m1 => ?_), fun c => cm_tellFits hm0 n0 hw (fun g1 f1 m1 t1 => ?_)⟩
  · rw [if_pos c] at K
    have := K g1 (f1.sub (by decide) (by decide)) m1 (by rw [f1.2.1 4 (by decide)]; exact c0)
    cases q : nall x nt with
    | false => rw [q] at this; exact zbr_t rfl this
    | true => rw [q] at this; exact zbr_f (by decide) this
  · rw [if_neg c] at K
    have lj := sfl_le (x := x) (nt := nt) (10 * x.2.2.1.length)
    have := K g1 (f1.sub (by decide) (by decide)) m1 (by rw [f1.2.1 4 (by decide)]; exact c0)
    refine ⟨fun c2 => ?_, fun c2 => ?_⟩
    · rw [if_pos c2] at this
      rw [t1.1]
      exact this
    · rw [if_neg c2] at this
      rw [t1.1]
      cases q : sfl x nt (10 * x.2.2.1.length) with
      | nil =>
        rw [q] at this
        exact zbr_t rfl this
      | cons a l =>
        rw [q] at this t1 lj
        refine zbr_f (nI_ne0 (by show 0 < l.length + 1; omega) (by show l.length + 1 < _; have : l.length + 1 ≤ _ := lj; omega)) ?_
        rw [t1.2 0 a rfl]
        exact this
end
