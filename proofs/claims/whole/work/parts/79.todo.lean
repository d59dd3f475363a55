/-! TO SLIDE, TO PINCH, TO SET -/
def sbt (P : Nat → Bool) (F : Nat → Int32) (m0 w0 : Int32) : Nat → Int32 × Int32
  | 0 => (m0, w0)
  | t + 1 => if P t = true ∧ (sbt P F m0 w0 t).1 < F t then (F t, nI t) else sbt P F m0 w0 t
theorem sbt_w {P : Nat → Bool} {F : Nat → Int32} {m0 w0 w1 : Int32} (hP : P 0 = true) (h : m0 < F 0) : ∀ t, sbt P F m0 w0 (t + 1) = sbt P F m0 w1 (t + 1)
  | 0 => by
    show (if P 0 = true ∧ m0 < F 0 then _ else _) = (if P 0 = true ∧ m0 < F 0 then _ else _)
    rw [if_pos ⟨hP, h⟩, if_pos ⟨hP, h⟩]
  | t + 1 => by
    have ih := sbt_w (w0 := w0) (w1 := w1) hP h t
    show (if P (t + 1) = true ∧ (sbt P F m0 w0 (t + 1)).1 < F (t + 1) then (F (t + 1), nI (t + 1)) else sbt P F m0 w0 (t + 1)) = (if P (t + 1) = true ∧ (sbt P F m0 w1 (t + 1)).1 < F (t + 1) then (F (t + 1), nI (t + 1)) else sbt P F m0 w1 (t + 1))
    rw [ih]
def xcb (x : sX) (n : Nat) (s : sZ) : Int32 := jbc (xgo x n x.2.2.2.2.2 s).2.2.2.2.1
theorem xcb_m1 {x : sX} {n : Nat} {s : sZ} (hs : sok s) : (-1 : Int32) < xcb x n s := by
  obtain ⟨v, hv, e⟩ := jbc_le (sok_C (sok_go (pl := x.2.2.2.1) (wl := x.2.2.2.2.1) (sl := x.2.2.1) n x.2.2.2.2.2 hs))
  unfold xcb
  rw [e]
  exact n1_lt (by omega)
def v_toSlide (x : sX) (s : sZ) (n w : Nat) : Int32 := if w = 0 then (sbt (fun _ => true) (fun h => xcb x n (sslide s h)) (-1) 0 (s.1 + 1)).2 else (sbt (fun _ => true) (fun h => xcb x n (sslide s h)) (-1) 0 (s.1 + 1)).1
def o_toSlide (x : sX) (z n w : Int32) : rs := if iszb x.1 z && iszb 2 w then (if isrb 1 60 n then .inl (v_toSlide x (x.2.1 z.toNatClampNeg) n.toNatClampNeg w.toNatClampNeg) else .inr 0) else .inr 1
section
variable {d : Nat} {k : Int32 → hG → hE → Prop} {kv : hG → hE → Prop} {X : Nat → hG → hE → Prop} {g g0 g1 : hG} {e : hE} {D : Nat} {x : sX} {f : Nat → Int32} {zs : Nat → sZ}
theorem cq_toSlide (hc : cdr g D x) (hr : hrm e) {z n w : Int32} (H : ∀ g', qf D g g' → oc (o_toSlide x z n w) k X g' e) : hci (d + 8) 180 [.ref 1000, .int z, .int n, .int w] g e k X := by
  have h4 := hc.2.1.2
  have hD' := hc.1.1
  refine zh_X7_toSlide (c_theZip hc hr (fun i hi hz => ⟨hT_zip hD' (by omega), ?_⟩) (fun h => oc_r (H g qf.refl) (by unfold o_toSlide; rw [iszb_f (by omega) h]; rfl)))
  subst hz
  refine c_checkWhat hr (n := 2) (by omega) (fun w hw hw' => ?_) (fun h => oc_r (H g qf.refl) (by unfold o_toSlide; rw [iszb_f (n := 2) (by omega) h, Bool.and_false]; rfl))
  subst hw'
  have hzw : (iszb x.1 (nI i) && iszb 2 (nI w)) = true := by rw [iszb_t (by omega) hi, iszb_t (by omega) hw]; rfl
  refine c_checkRange hr (a := 1) (b := 60) (by omega) (by omega) (fun m m1 hm hn => ?_) (fun h => oc_r (H g qf.refl) (by unfold o_toSlide; rw [hzw, isrb_f (by omega) (by omega) h]; rfl))
  subst hn
  have hv : o_toSlide x (nI i) (nI m) (nI w) = .inl (v_toSlide x (x.2.1 i) m w) := by
    unfold o_toSlide
    rw [hzw, isrb_t (by omega) m1 hm, nI_clamp (by omega), nI_clamp (by omega), nI_clamp (by omega)]
    rfl
  have ha := hT_zip (D := D) hD' (show i < 4 by omega)
  obtain ⟨n1, n2⟩ := ct_n (hc.2.2.1 i hi)
  have : ∀ t, t ≤ (x.2.1 i).1 + 1 → ∀ g1, qf D g g1 → hwi (d + 7) zm_X7_toSlide k X 28 [(0, .ref 1000), (1, .int (nI i)), (2, .int (nI m)), (3, .int (nI w)), (4, .ref (D + 2 + i)), (5, .int (sbt (fun _ => true) (fun h => xcb x m (sslide (x.2.1 i) h)) (-1) 0 t).1), (6, .int (sbt (fun _ => true) (fun h => xcb x m (sslide (x.2.1 i) h)) (-1) 0 t).2), (7, .int (nI t))] g1 e := by
    refine hdown ?_ ?_
    · intro g1 q1
      have fin := oc_l (H g1 q1) hv
      refine zh_X7_toSlide_28 ha (c_size ha (zbr_t (by rw [(ct_n ((cdr_qf q1 hc).2.2.1 i hi)).1]; exact nI_lt (by omega) (by omega)) ?_))
      unfold v_toSlide at fin
      refine ⟨fun c => ?_, fun c => ?_⟩
      · rw [if_pos ((nI_eq (b := 0) (by omega) (by omega)).mp c)] at fin
        exact fin
      · rw [if_neg (fun z => c (by rw [z]; rfl))] at fin
        exact fin
    · intro t ht W g1 q1
      have hc1 := cdr_qf q1 hc
      refine zh_X7_toSlide_28 ha (c_size ha (zbr_f (by rw [(ct_n (hc1.2.2.1 i hi)).1]; exact nI_nlt (by omega) (by omega)) (c_trialOf hc1 hr (fun i' hi' hz' g2 q2 c2 _ => ?_) (fun h => absurd ⟨i, hi, rfl⟩ h))))
      obtain rfl : i = i' := (nI_eq (by omega) (by omega)).mp hz'
      obtain ⟨s1, s2⟩ := ct_n c2
      refine ⟨hT_trial (by omega), c_slideTo (hT_trial (by omega)) s1 s2 ?_⟩
      have q3 := qf_zp (g := g2) hD' (show i < 4 by omega) (zslide (zg g2 (1038 + i)) (x.2.1 i).1 (nI t))
      have c3 := ct_slide (h := t) c2 (by omega)
      refine c_closedBehind (cdr_qf ((q1.trans q2).trans q3) hc) (by omega) c3 (by omega) (fun g4 p4 => ?_)
      have q4 : qf D g g4 := ((q1.trans q2).trans q3).trans (qf_pf (by omega) p4)
      have W' := W g4 q4
      rw [nI_succ] at W'
      unfold sbt at W'
      refine ⟨fun c => ?_, fun c => ?_⟩
      · rw [if_neg (fun z => absurd z.2 (Int32.not_lt.mpr c))] at W'
        exact W'
      · rw [if_pos ⟨rfl, Int32.not_le.mp c⟩] at W'
        exact W'
  exact this 0 (Nat.zero_le _) g qf.refl
/-- the model: so many days, then put back -/
theorem cm_closedBehind {i n : Nat} (hi : i < x.1) (hn : n ≤ 60) (hs : sim g0 x f g1 zs x.2.2.2.2.2) (H : ∀ g2, sim g0 x f g2 x.2.1 x.2.2.2.2.2 → mdr g2 x → k (xcb x n (zs i)) g2 e) : hci (d + 7) 312 [.ref 1046, .int (nI i), .int (nI n)] g1 e k X := by
  have h4 := hs.1.1.1.1.2
  have ht := hs.1.1.2.2.2.2
  refine zh_X8_closedBehind (sim_goOn hs (by omega) (fun g2 s2 _ _ => ⟨nI_in (by omega) (by omega), ?_⟩))
  have z2 := s2.2.2.1.2 i hi
  rw [nI_clamp (by omega), z2.1.2.2.2.2.1]
  exact cm_bitsC (sok_C z2.2) (sim_end s2 (fun g3 f3 m3 c3 u3 => H g3 (sim_again s2 f3 m3 c3 u3) m3))
theorem mq_toSlide (hm : mdr g x) {z n w : Int32} (H : ∀ g' u, fr qL qF g g' → mdr g' x → om c12 (o_toSlide x z n w) u g' → k u g' e) : hci (d + 9) 315 [.ref 1046, .int z, .int n, .int w] g e k X := by
  have h4 := hm.1.1.2
  have hm0 : mdr (sI g 1046 4 0) x := mdr_code hm
  refine zh_X8_toSlide (cm_isZip hm0.1.1.1 h4 (fun i hi hv => zbr_f (by decide) ?_) (fun h => zbr_t rfl (cm_failQ (cd := c12) (n := 1) hm0 fr_code (by unfold o_toSlide; rw [iszb_f (by omega) h]; rfl) H)))
  subst hv
  refine cm_isInR (a := 0) (b := 1) (by omega) (by omega) (by decide) (by decide) (fun w _ hw hw' => zbr_f (by decide) ?_) (fun h => zbr_t rfl (cm_failQ (cd := c12) (n := 1) hm0 fr_code (by
    unfold o_toSlide
    rw [iszb_f (n := 2) (by omega) (fun z => h (by obtain ⟨i, hi, e⟩ := z; exact ⟨i, by omega, by omega, e⟩)), Bool.and_false]
    rfl) H))
  subst hw'
  have hzw : (iszb x.1 (nI i) && iszb 2 (nI w)) = true := by rw [iszb_t (by omega) hi, iszb_t (by omega) (by omega)]; rfl
  refine cm_isInR (a := 1) (b := 60) (by omega) (by omega) (by decide) (by decide) (fun m m1 hmm hn => zbr_f (by decide) ?_) (fun h => zbr_t rfl (cm_failQ (cd := c12) (n := 0) hm0 fr_code (by unfold o_toSlide; rw [hzw, isrb_f (by omega) (by omega) h]; rfl) H))
  subst hn
  have hv : o_toSlide x (nI i) (nI m) (nI w) = .inl (v_toSlide x (x.2.1 i) m w) := by
    unfold o_toSlide
    rw [hzw, isrb_t (by omega) m1 hmm, nI_clamp (by omega), nI_clamp (by omega), nI_clamp (by omega)]
    rfl
  have HK := mqk_in hv H
  have ei : (nI i).toNatClampNeg = i := nI_clamp (by omega)
  have hi8 : hin (nI i) 8 := nI_in (by omega) (by omega)
  have os := (hm.1.2 i hi).2
  have n2 := os.1.2
  refine sim_begin hm0 code_at (fun f s0 => ?_)
  have : ∀ t, t ≤ (x.2.1 i).1 + 1 → ∀ g1, sim (sI g 1046 4 0) x f g1 x.2.1 x.2.2.2.2.2 → mdr g1 x → hwi (d + 8) zm_X8_toSlide k X 65 [(0, .ref 1046), (1, .int (nI i)), (2, .int (nI m)), (3, .int (nI w)), (4, .int (sbt (fun _ => true) (fun h => xcb x m (sslide (x.2.1 i) h)) (-1) (-1) t).1), (5, .int (sbt (fun _ => true) (fun h => xcb x m (sslide (x.2.1 i) h)) (-1) (-1) t).2), (6, .int (nI t))] g1 e := by
    refine hdown ?_ ?_
    · intro g1 s1 m1
      have fin := HK g1 s1.2.1.1 m1 s1.2.1.2.2
      refine zh_X8_toSlide_65 ⟨hi8, zbr_t (by rw [ei, (m1.1.2 i hi).1.1]; exact nI_lt (by omega) (by omega)) ?_⟩
      unfold v_toSlide at fin
      rw [sbt_w (w1 := -1) rfl (xcb_m1 (sok_slide os (Nat.zero_le _)))] at fin
      refine ⟨fun c => ?_, fun c => ?_⟩
      · rw [if_pos ((nI_eq (b := 0) (by omega) (by omega)).mp c)] at fin
        exact fin
      · rw [if_neg (fun z => c (by rw [z]; rfl))] at fin
        exact fin
    · intro t ht W g1 s1 m1
      refine zh_X8_toSlide_65 ⟨hi8, zbr_f (by rw [ei, (m1.1.2 i hi).1.1]; exact nI_nlt (by omega) (by omega)) (sim_slide (h := t) s1 hi (by omega) (fun g2 s2 _ => cm_closedBehind hi (by omega) s2 (fun g3 s3 m3 => ?_)))⟩
      have W' := W g3 s3 m3
      rw [nI_succ] at W'
      unfold sbt at W'
      rw [va_up_at]
      refine ⟨fun c => ?_, fun c => ?_⟩
      · rw [if_pos ⟨rfl, c⟩] at W'
        exact W'
      · rw [if_neg (fun z => c z.2)] at W'
        exact W'
  exact this 0 (Nat.zero_le _) _ s0 (mdr_fr (L := [1070]) (F := []) (fr_aI (by decide) (by decide)) (by decide) (by decide) hm0)
end
