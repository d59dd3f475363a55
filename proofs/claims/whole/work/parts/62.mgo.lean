/-- the strain of a day; so many days; how often a zip bursts in them -/
def sstr (sl : List Nat) (t : Nat) : Nat := if sl = [] then 4 else sl.getD (t % sl.length) 0
def sd1 (pl wl : List tk) (sl : List Nat) (t : Nat) (s : sZ) : sD := sday pl wl (nI (sstr sl t)) (nI t) s
def sgo (pl wl : List tk) (sl : List Nat) : Nat → Nat → sZ → sZ
  | 0, _, s => s
  | n + 1, t, s => sgo pl wl sl n (t + 1) (sd1 pl wl sl t s).1
def sbn (pl wl : List tk) (sl : List Nat) : Nat → Nat → sZ → Int32
  | 0, _, _ => 0
  | n + 1, t, s => jbc (sd1 pl wl sl t s).2.1 + sbn pl wl sl n (t + 1) (sd1 pl wl sl t s).1
/-- the model's zips -/
def ms (g : hG) (nz : Nat) (zs : Nat → sZ) : Prop := (g.1 1050 0 = nI nz ∧ nz ≤ 4) ∧ ∀ z, z < nz → mz g z (zs z) ∧ sok (zs z)
def mst (g : hG) (sl : List Nat) : Prop := g.1 1050 1 = nI sl.length ∧ sl.length ≤ 8 ∧ (∀ j w, sl[j]? = some w → g.1 1055 j = nI w) ∧ ∀ w ∈ sl, w ≤ 9
section
variable {d : Nat} {k : Int32 → hG → hE → Prop} {kv : hG → hE → Prop} {X : Nat → hG → hE → Prop} {g : hG} {e : hE} {pl wl : List tk} {sl : List Nat} {zs : Nat → sZ} {nz : Nat}
theorem mx_oz {z z' : Nat} {g0 g g' : hG} {x : sD} (hne : ¬ z' = z) (f : fr dL [] g g') (o : oz z g g') (h : mx g0 g z' x) : mx g0 g' z' x := by
  obtain ⟨⟨h1, h2, h3, h4, h5, h6⟩, h7, h8, h9⟩ := h
  obtain ⟨o1, o2, o3, o4⟩ := o.2 z' hne
  refine ⟨⟨?_, ?_, fun p hp => ?_, fun p hp => ?_, ?_, ?_⟩, ?_, ?_, ?_⟩
  · rw [f.1 1052 (by decide) (by decide)]; exact h1
  · rw [f.1 1051 (by decide) (by decide)]; exact h2
  · rw [(o.1 (16 * z' + p) (by omega)).1]; exact h3 p hp
  · rw [(o.1 (16 * z' + p) (by omega)).2]; exact h4 p hp
  · rw [o1]; exact h5
  · rw [f.1 1062 (by decide) (by decide)]; exact h6
  · rw [o2]; exact h7
  · rw [o3]; exact h8
  · rw [o4]; exact h9
theorem mz_oz {z z' : Nat} {g g' : hG} {s : sZ} (hne : ¬ z' = z) (f : fr dL [] g g') (o : oz z g g') (h : mz g z' s) : mz g' z' s := by
  obtain ⟨h1, h2, h3, h4, h5, h6⟩ := h
  obtain ⟨o1, o2, o3, o4⟩ := o.2 z' hne
  refine ⟨?_, ?_, fun p hp => ?_, fun p hp => ?_, ?_, ?_⟩
  · rw [f.1 1052 (by decide) (by decide)]; exact h1
  · rw [f.1 1051 (by decide) (by decide)]; exact h2
  · rw [(o.1 (16 * z' + p) (by omega)).1]; exact h3 p hp
  · rw [(o.1 (16 * z' + p) (by omega)).2]; exact h4 p hp
  · rw [o1]; exact h5
  · rw [f.1 1062 (by decide) (by decide)]; exact h6
theorem cm_aDayOf (hm : ms g nz zs) (hr : mrls g pl wl) {st : Int32} (H : ∀ g', fr dL [31] g g' → (∀ z, z < nz → mx g g' z (sday pl wl st (g.1 1046 31) (zs z))) → g'.1 1046 31 = g.1 1046 31 + 1 → kv g' e) : hcv (d + 5) 264 [.ref 1046, .int st] g e kv X := by
  obtain ⟨⟨hz0, hz4⟩, hmz⟩ := hm
  have ub : ∀ b, b ∈ dL → b ∈ dL := fun b h => h
  refine zh_X8_aDayOf ?_
  have : ∀ z, z ≤ nz → ∀ g', fr dL [] g g' → (∀ z', z' < z → mx g g' z' (sday pl wl st (g.1 1046 31) (zs z'))) → (∀ z', z ≤ z' → z' < nz → mz g' z' (zs z') ∧ g'.1 1069 z' = g.1 1069 z') → hwv (d + 4) zm_X8_aDayOf kv X 2 [(0, .ref 1046), (1, .int st), (2, .int (nI z))] g' e := by
    refine hdown ?_ ?_
    · intro g' f hx _
      refine zh_X8_aDayOf_2 (zbr_t (by rw [f.1 1050 (by decide) (by decide), hz0]; exact nI_le (Nat.le_refl _) (by omega)) ?_)
      have e31 : g'.1 1046 31 = g.1 1046 31 := f.2.1 31 (by decide)
      refine H _ ((f.sub ub (by decide)).F (by decide)) (fun z hz => ?_) ?_
      · exact hx z hz
      · rw [sI_at, upd_at, e31]
    · intro z hz W g' f hx hy
      have hr' : mrls g' pl wl := mrls_fr f (by decide) (by decide) (by decide) hr
      have ez : (nI z).toNatClampNeg = z := nI_clamp (by omega)
      have hi4 : hin (nI z) 4 := nI_in (by omega) (by omega)
      refine zh_X8_aDayOf_2 (zbr_f (by rw [f.1 1050 (by decide) (by decide), hz0]; exact nI_ge hz (by omega)) ⟨hi4, hi4, ?_⟩)
      rw [ez]
      have hok := (hmz z hz).2
      have e31 : g'.1 1046 31 = g.1 1046 31 := f.2.1 31 (by decide)
      have f1 : fr dL [] g' (sI (sI g' 1067 z 0) 1068 z (-1)) := (fr.refl.I (by decide) (by decide)).I (by decide) (by decide)
      have o1 : oz z g' (sI (sI g' 1067 z 0) 1068 z (-1)) := ⟨fun i _ => ⟨rfl, rfl⟩, fun i hi => ⟨rfl, by simp [sI_r, upd, hi], by simp [sI_r, upd, hi], rfl⟩⟩
      refine aday_outer (g := sI (sI g' 1067 z 0) 1068 z (-1)) (g0 := g) (z := z) (pl := pl) (wl := wl) (y := sday pl wl st (g.1 1046 31) (zs z)) (by omega) (mrls_fr f1 (by decide) (by decide) (by decide) hr') ?_ 16 (zs z, 0, -1, false) hok (sbo_0 _ _ _) ?_ ?_ _ fr.refl oz.refl ?_
      · intro g2 f2 o2 m2
        rw [nI_1]
        have o12 := o1.trans o2
        have f12 := f1.trans f2
        refine W g2 (f.trans f12) (fun z' hz' => ?_) (fun z' h1 h2 => ?_)
        · by_cases c : z' = z
          · subst c; exact m2
          · exact mx_oz c f12 o12 (hx z' (by omega))
        · obtain ⟨a, b⟩ := hy z' (by omega) h2
          exact ⟨mz_oz (by omega) f12 o12 a, by rw [(o12.2 z' (by omega)).2.2.2]; exact b⟩
      · exact Nat.le_trans (cl_le _ _) hok.1.2
      · show sdk pl wl st ((sI (sI g' 1067 z 0) 1068 z (-1)).1 1046 31) (16 + 1) _ = _
        rw [show (sI (sI g' 1067 z 0) 1068 z (-1)).1 1046 31 = g.1 1046 31 from e31]
        exact sday_end hok.1.2 (Nat.le_trans (cl_le _ _) hok.1.2) (Nat.le_refl _)
      · obtain ⟨a, b⟩ := hy z (Nat.le_refl _) hz
        refine ⟨?_, by simp [sI_r, upd], by simp [sI_r, upd], ?_⟩
        · exact mz_cg a rfl rfl rfl rfl rfl rfl
        · show g'.1 1069 z = g.1 1069 z + jbc 0
          rw [b, show jbc 0 = 0 by decide, Int32.add_zero]
  exact this 0 (Nat.zero_le _) g fr.refl (fun z' h => absurd h (by omega)) (fun z' _ h => ⟨(hmz z' h).1, rfl⟩)
theorem sstr_le (h : ∀ w ∈ sl, w ≤ 9) (t : Nat) : sstr sl t ≤ 9 := by
  unfold sstr
  split
  · omega
  · rename_i hl
    have hlen : 0 < sl.length := List.length_pos_iff.mpr hl
    have hlt : t % sl.length < sl.length := Nat.mod_lt _ hlen
    rw [List.getD_eq_getElem?_getD, List.getElem?_eq_getElem hlt]
    exact h _ (List.getElem_mem hlt)
theorem cm_strainOf (hs : mst g sl) {t : Nat} (ht : t < 2 ^ 31) (H : k (nI (sstr sl t)) g e) : hci (d + 1) 260 [.ref 1046, .int (nI t)] g e k X := by
  obtain ⟨h1, h2, h3, h4⟩ := hs
  refine zh_X8_strainOf ?_
  unfold sstr at H
  by_cases hl : sl = []
  · rw [if_pos hl] at H
    exact zbr_t (by rw [h1, hl]; rfl) H
  · rw [if_neg hl] at H
    have hlen : 0 < sl.length := List.length_pos_iff.mpr hl
    have hlt : t % sl.length < sl.length := Nat.mod_lt _ hlen
    have hne : ¬ nI sl.length = 0 := nI_ne0 hlen (by omega)
    rw [h1]
    refine zbr_f hne ⟨hne, ?_⟩
    rw [pk_rem ht hlen (by omega), nI_clamp (by omega), h3 (t % sl.length) (sl[t % sl.length]) (List.getElem?_eq_getElem hlt)]
    rw [List.getD_eq_getElem?_getD, List.getElem?_eq_getElem hlt] at H
    exact ⟨nI_in (by omega) (by omega), H⟩
theorem mst_fr {L F : List Nat} {g g' : hG} (h : fr L F g g') (h1 : ¬ 1050 ∈ L) (h2 : ¬ 1055 ∈ L) (hs : mst g sl) : mst g' sl := by
  unfold mst
  rw [h.1 1050 h1 (by decide), h.1 1055 h2 (by decide)]
  exact hs
/-- one day goes on -/
theorem cm_go1 (hm : ms g nz zs) (hr : mrls g pl wl) (hs : mst g sl) {t : Nat} (ht : g.1 1046 31 = nI t) (h31 : t < 2 ^ 30) (H : ∀ g', fr dL [31] g g' → (∀ z, z < nz → mx g g' z (sd1 pl wl sl t (zs z))) → g'.1 1046 31 = nI (t + 1) → kv g' e) : hcv (d + 6) 265 [.ref 1046, .int 1] g e kv X := by
  refine zh_X8_goOn (zh_X8_goOn_2 (zbr_f (by decide) ?_))
  rw [ht]
  refine cm_strainOf hs (by omega) (cm_aDayOf hm hr (fun g' f m q => ?_))
  refine zh_X8_goOn_2 (zbr_t (by decide) (H g' f ?_ ?_))
  · rw [ht] at m; exact m
  · rw [q, ht, nI_1]
theorem ms_mx {g0 g g' : hG} {L F : List Nat} (f : fr L F g g') (h5 : ¬ 1050 ∈ L) (hm : ms g nz zs) {f' : Nat → sD} (hx : ∀ z, z < nz → mx g0 g' z (f' z)) (hk : ∀ z, z < nz → sok (f' z).1) : ms g' nz (fun z => (f' z).1) :=
  ⟨⟨by rw [f.1 1050 h5 (by decide)]; exact hm.1.1, hm.1.2⟩, fun z hz => ⟨(hx z hz).1, hk z hz⟩⟩
theorem cm_goOn {n : Nat} (hn : n < 2 ^ 20) (hm : ms g nz zs) (hr : mrls g pl wl) (hs : mst g sl) {t : Nat} (ht : g.1 1046 31 = nI t) (h31 : t < 2 ^ 20) (H : ∀ g', fr dL [31] g g' → ms g' nz (fun z => sgo pl wl sl n t (zs z)) → (∀ z, z < nz → g'.1 1069 z = g.1 1069 z + sbn pl wl sl n t (zs z)) → g'.1 1046 31 = nI (t + n) → kv g' e) : hcv (d + 6) 265 [.ref 1046, .int (nI n)] g e kv X := by
  refine zh_X8_goOn ?_
  have : ∀ m j, j + m = n → ∀ (zs' : Nat → sZ) (g1 : hG), fr dL [31] g g1 → ms g1 nz zs' → g1.1 1046 31 = nI (t + j) → (∀ z, z < nz → sgo pl wl sl m (t + j) (zs' z) = sgo pl wl sl n t (zs z)) → (∀ z, z < nz → g1.1 1069 z + sbn pl wl sl m (t + j) (zs' z) = g.1 1069 z + sbn pl wl sl n t (zs z)) → hwv (d + 5) zm_X8_goOn kv X 2 [(0, .ref 1046), (1, .int (nI n)), (2, .int (nI j))] g1 e := by
    intro m
    induction m with
    | zero =>
      intro j hj zs' g1 f hm1 h1 h2 h3
      refine zh_X8_goOn_2 (zbr_t (nI_le (by omega) (by omega)) (H g1 f ?_ ?_ ?_))
      · refine ⟨hm1.1, fun z hz => ?_⟩
        have := h2 z hz
        show mz g1 z (sgo pl wl sl n t (zs z)) ∧ sok (sgo pl wl sl n t (zs z))
        rw [← this]
        exact hm1.2 z hz
      · intro z hz
        have := h3 z hz
        rw [← this]
        show _ = g1.1 1069 z + 0
        rw [Int32.add_zero]
      · rw [h1]; congr 1; omega
    | succ m ih =>
      intro j hj zs' g1 f hm1 h1 h2 h3
      have hr1 : mrls g1 pl wl := mrls_fr f (by decide) (by decide) (by decide) hr
      have hs1 : mst g1 sl := mst_fr f (by decide) (by decide) hs
      refine zh_X8_goOn_2 (zbr_f (nI_ge (by omega) (by omega)) ?_)
      rw [h1]
      refine cm_strainOf hs1 (by omega) (cm_aDayOf hm1 hr1 (fun g2 f2 m2 q2 => ?_))
      rw [h1] at m2 q2
      rw [nI_1]
      refine ih (j + 1) (by omega) (fun z => (sd1 pl wl sl (t + j) (zs' z)).1) g2 (f.trans f2) (ms_mx f2 (by decide) hm1 m2 (fun z hz => sok_day (hm1.2 z hz).2)) (by rw [q2, nI_1]; congr 1) (fun z hz => h2 z hz) (fun z hz => ?_)
      rw [(m2 z hz).2.2.2, ← h3 z hz, Int32.add_assoc]
      rfl
  have := this n 0 (by omega) zs g fr.refl hm ht (fun _ _ => rfl) (fun _ _ => rfl)
  exact this
end
