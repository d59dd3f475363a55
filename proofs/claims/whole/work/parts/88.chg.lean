/-! YEARS: what is drawn and done before a day -/
def scz (c t : Nat) (s : sZ) (p : Nat) : sZ := if c = 1 then (if t = 0 then sp0 s p else sp1 s p) else (if t = 0 then sw0 s p else sw1 s p)
def schG (dn : Int32 → Int32) (dv : Int32 → Nat) (n : Nat) (zs : Nat → sZ) (S : Int32) : (Nat → sZ) × Int32 :=
  if 2 < dv (dn S) % 6 ∨ n = 0 then (zs, dn S)
  else if dv (dn S) % 6 = 0 then (va_up zs (dv (dn (dn S)) % n) (sslide (zs (dv (dn (dn S)) % n)) (zs (dv (dn (dn S)) % n)).1), dn (dn S))
  else (va_up zs (dv (dn (dn S)) % n) (scz (dv (dn S) % 6) (dv (dn (dn (dn (dn S)))) % 2) (zs (dv (dn (dn S)) % n)) (dv (dn (dn (dn S))) % (zs (dv (dn (dn S)) % n)).1)), dn (dn (dn (dn S))))
def sch (n : Nat) (zs : Nat → sZ) (S : Int32) : (Nat → sZ) × Int32 := schG sdn sdv n zs S
section
variable {d : Nat} {k : Int32 → hG → hE → Prop} {kv : hG → hE → Prop} {X : Nat → hG → hE → Prop} {g : hG} {e : hE} {D : Nat} {x : sX} {zs : Nat → sZ}
theorem qf_45 {n : Nat} {v : Int32} (hD' : hD D) : qf D g (sI g 1045 n v) := by
  have := hD_lt hD'
  exact ⟨fun b h1 _ _ _ => sI_off g (by omega), fun k _ => by rw [sI_off g (by omega)], fun _ _ => rfl, rfl⟩
theorem tct_45 {n : Nat} {v : Int32} (h4 : x.1 ≤ 4) (h : tct x g zs) : tct x (sI g 1045 n v) zs := fun i hi => ct_cg (zg_cg (sI_off g (by omega)) rfl) (h i hi)
theorem tct_zp {i : Nat} {z : cZ} {s : sZ} (hi : i < x.1) (h4 : x.1 ≤ 4) (h : tct x g zs) (hz : ctz x.2.2.2.1 z s) : tct x (zp g (1038 + i) z) (va_up zs i s) := by
  intro j hj
  by_cases c : j = i
  · subst c
    rw [va_up_at]
    exact ct_z hz
  · rw [va_up_off _ _ c]
    exact ct_cg (zg_off g z (by omega)) (h j hj)
theorem zp_45 {i : Nat} {z : cZ} (hi : i < 4) : (zp g (1038 + i) z).1 1045 = g.1 1045 := zp1 g _ z (by omega)
theorem c_drawChangeG {dn : Int32 → Int32} {dv : Int32 → Nat} (hd : ∀ (d : Nat) (k : Int32 → hG → hE → Prop) (g : hG) (n : Nat), 0 < n → n ≤ 16 → k (nI (dv (dn (g.1 1045 0)) % n)) (sI g 1045 0 (dn (g.1 1045 0))) e → hci (d + 1) 35 [.ref 1045, .int (nI n)] g e k X) (hc : cdr g D x) (ht : tct x g zs) (H : ∀ g', qf D g g' → tct x g' (schG dn dv x.1 zs (g.1 1045 0)).1 → g'.1 1045 0 = (schG dn dv x.1 zs (g.1 1045 0)).2 → kv g' e) : hcv (d + 5) 198 [.ref 1000] g e kv X := by
  have h4 := hc.2.1.2
  have hD' := hc.1.1
  obtain ⟨S, hS⟩ : ∃ S, S = g.1 1045 0 := ⟨_, rfl⟩
  rw [← hS] at H
  refine zh_X7_drawChange (hd _ _ _ 6 (by omega) (by omega) ?_)
  rw [← hS]
  have q1 : qf D g (sI g 1045 0 (dn S)) := qf_45 hD'
  have t1 : tct x (sI g 1045 0 (dn S)) zs := tct_45 h4 ht
  have c1 := cdr_qf q1 hc
  have v1 : (sI g 1045 0 (dn S)).1 1045 0 = dn S := by rw [sI_at, upd_at]
  generalize sI g 1045 0 (dn S) = g1 at *
  have m6 : dv (dn S) % 6 < 6 := Nat.mod_lt _ (by omega)
  unfold schG at H
  refine ⟨fun c => ?_, fun c => ?_⟩
  · rw [if_pos (.inl (by
      apply Nat.lt_of_not_le
      intro z
      exact absurd c (nI_nlt (b := dv (dn S) % 6) (a := 2) z (by omega))))] at H
    exact H g1 q1 t1 v1
  · have c2 : ¬ 2 < dv (dn S) % 6 := fun z => c (nI_lt (a := 2) z (by omega))
    rw [c1.1.2]
    refine ⟨hD', zh_X2_zipCount hD' ?_⟩
    rw [c1.2.1.1]
    refine ⟨fun c0 => ?_, fun c0 => ⟨by rw [c1.1.2]; exact hD', ?_⟩⟩
    · rw [if_pos (.inr ((nI_eq (b := 0) (by omega) (by omega)).mp c0))] at H
      exact H g1 q1 t1 v1
    · have n0 : ¬ x.1 = 0 := fun z => c0 (by rw [z]; rfl)
      rw [if_neg (fun z => z.elim c2 n0)] at H
      rw [c1.1.2]
      refine zh_X2_zipCount hD' ?_
      rw [c1.2.1.1]
      refine hd _ _ _ _ (by omega) (by omega) ?_
      rw [v1]
      have q2 : qf D g1 (sI g1 1045 0 (dn (dn S))) := qf_45 hD'
      have t2 : tct x (sI g1 1045 0 (dn (dn S))) zs := tct_45 h4 t1
      have v2 : (sI g1 1045 0 (dn (dn S))).1 1045 0 = dn (dn S) := by rw [sI_at, upd_at]
      generalize sI g1 1045 0 (dn (dn S)) = g2 at *
      have hi : dv (dn (dn S)) % x.1 < x.1 := Nat.mod_lt _ (by omega)
      generalize dv (dn (dn S)) % x.1 = i at *
      refine c_trialAt (by omega) ⟨hT_trial (by omega), fun c3 => ?_, fun c3 => ?_⟩
      · rw [if_pos ((nI_eq (b := 0) (by omega) (by omega)).mp c3)] at H
        obtain ⟨n1, n2⟩ := ct_n (t2 i hi)
        refine c_slideToTop (hT_trial (by omega)) n1 n2 (H _ ((q1.trans q2).trans (qf_zp hD' (by omega) _)) (tct_zp hi h4 t2 ?_) (by rw [zp_45 (by omega)]; exact v2))
        exact ⟨zrel_slide (t2 i hi).1 (t2 i hi).2.1 _, sok_slide (t2 i hi).2.1 (Nat.le_refl _), hv_0 _ _⟩
      · have c4 : ¬ dv (dn S) % 6 = 0 := fun z => c3 (by rw [z]; rfl)
        rw [if_neg c4] at H
        obtain ⟨n1, n2⟩ := ct_n (t2 i hi)
        have n0' := (t2 i hi).2.1.1.1
        have ha := hT_trial (show i < 4 by omega)
        refine c_size ha ?_
        rw [n1]
        refine hd _ _ _ _ (by omega) (by omega) ?_
        rw [v2]
        have q3 : qf D g2 (sI g2 1045 0 (dn (dn (dn S)))) := qf_45 hD'
        have t3 : tct x (sI g2 1045 0 (dn (dn (dn S)))) zs := tct_45 h4 t2
        have v3 : (sI g2 1045 0 (dn (dn (dn S)))).1 1045 0 = dn (dn (dn S)) := by rw [sI_at, upd_at]
        generalize sI g2 1045 0 (dn (dn (dn S))) = g3 at *
        have hp : dv (dn (dn (dn S))) % (zs i).1 < (zs i).1 := Nat.mod_lt _ (by omega)
        generalize dv (dn (dn (dn S))) % (zs i).1 = p at *
        refine hd _ _ _ 2 (by omega) (by omega) ?_
        rw [v3]
        have q4 : qf D g3 (sI g3 1045 0 (dn (dn (dn (dn S))))) := qf_45 hD'
        have t4 : tct x (sI g3 1045 0 (dn (dn (dn (dn S))))) zs := tct_45 h4 t3
        have v4 : (sI g3 1045 0 (dn (dn (dn (dn S))))).1 1045 0 = dn (dn (dn (dn S))) := by rw [sI_at, upd_at]
        generalize sI g3 1045 0 (dn (dn (dn (dn S)))) = g4 at *
        have hb : dv (dn (dn (dn (dn S)))) % 2 < 2 := Nat.mod_lt _ (by omega)
        generalize dv (dn (dn (dn (dn S)))) % 2 = b at *
        have fin : ∀ z s', ctz x.2.2.2.1 z s' → s' = scz (dv (dn S) % 6) b (zs i) p → kv (zp g4 (1038 + i) z) e := by
          intro z s' hz hs'
          refine H _ ((((q1.trans q2).trans q3).trans q4).trans (qf_zp hD' (by omega) _)) ?_ (by rw [zp_45 (by omega)]; exact v4)
          rw [← hs']
          exact tct_zp hi h4 t4 hz
        have cz : ctz x.2.2.2.1 (zg g4 (1038 + i)) (zs i) := t4 i hi
        unfold scz at fin
        refine ⟨fun c5 => c_pinchTooth ha ?_, fun c5 => c_weakenTooth ha ?_⟩
        · rw [if_pos ((nI_eq (b := 1) (by omega) (by omega)).mp c5)] at fin
          match b, hb with
          | 0, _ => exact fin _ _ (ctz_p0 cz hp) rfl
          | 1, _ => exact fin _ _ (ctz_p1 cz hp) rfl
          | b + 2, h => exact absurd h (by omega)
        · rw [if_neg (fun z => c5 (by rw [z]; rfl))] at fin
          match b, hb with
          | 0, _ => exact fin _ _ (ctz_w0 cz hp) rfl
          | 1, _ => exact fin _ _ (ctz_w1 cz hp) rfl
          | b + 2, h => exact absurd h (by omega)
theorem c_drawChange (hc : cdr g D x) (ht : tct x g zs) (H : ∀ g', qf D g g' → tct x g' (sch x.1 zs (g.1 1045 0)).1 → g'.1 1045 0 = (sch x.1 zs (g.1 1045 0)).2 → kv g' e) : hcv (d + 5) 198 [.ref 1000] g e kv X :=
  c_drawChangeG (dn := sdn) (dv := sdv) (fun _ _ _ _ h0 hn h => c_draw h0 hn h) hc ht H
end
