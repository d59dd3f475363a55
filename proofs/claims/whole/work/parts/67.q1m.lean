/-- the model's longest run: of how many, its lowest, the run that ends here -/
def mlr (C : Int32) : Nat → Int32 × Int32 × Int32
  | 0 => (0, -1, 0)
  | p + 1 => if (mlr C p).1 < (if bt C p then (mlr C p).2.2 + 1 else 0) then (if bt C p then (mlr C p).2.2 + 1 else 0, nI p - (if bt C p then (mlr C p).2.2 + 1 else 0) + 1, if bt C p then (mlr C p).2.2 + 1 else 0) else ((mlr C p).1, (mlr C p).2.1, if bt C p then (mlr C p).2.2 + 1 else 0)
theorem mlr_zlr (C : Int32) : ∀ p, (mlr C p).1 = (zlr C p).1 ∧ (mlr C p).2.2 = (zlr C p).2
  | 0 => ⟨rfl, rfl⟩
  | p + 1 => by
    obtain ⟨a, b⟩ := mlr_zlr C p
    unfold mlr zlr imx
    rw [a, b]
    split <;> split <;> exact ⟨rfl, rfl⟩
section
variable {d : Nat} {k : Int32 → hG → hE → Prop} {kv : hG → hE → Prop} {X : Nat → hG → hE → Prop} {g : hG} {e : hE} {x : sX} {z : Nat} {s : sZ}
theorem cm_gripsOf (hz4 : z < 4) (hm : mz g z s) (hn : s.1 ≤ 16) (H : k (ssum s s.1) g e) : hci (d + 1) 255 [.ref 1046, .int (nI z)] g e k X := by
  have ez : (nI z).toNatClampNeg = z := nI_clamp (by omega)
  refine zh_X8_gripsOf ?_
  refine hdown (W := fun p => hwi d zm_X8_gripsOf k X 4 [(0, .ref 1046), (1, .int (nI z)), (2, .int (ssum s p)), (3, .int (nI p))] g e) (n := s.1) ?_ ?_ 0 (Nat.zero_le _)
  · refine zh_X8_gripsOf_4 ⟨nI_in (by omega) (by omega), zbr_t ?_ H⟩
    rw [ez, hm.1]
    exact nI_le (Nat.le_refl _) (by omega)
  · intro p hp W
    rw [nI_succ] at W
    refine zh_X8_gripsOf_4 ⟨nI_in (by omega) (by omega), zbr_f (by rw [ez, hm.1]; exact nI_ge hp (by omega)) ?_⟩
    rw [ix16, nI_clamp (show 16 * z + p < 2 ^ 31 by omega), hm.2.2.1 p (by omega), hm.2.2.2.1 p (by omega)]
    exact ⟨nI_in (by omega) (by omega), nI_in (by omega) (by omega), W⟩
theorem cm_longestOf (hz4 : z < 4) (hm : mz g z s) (hn : s.1 ≤ 16) {f : Int32} (H : k (if f = 0 then (mlr s.2.2.2.2.1 s.1).1 else (mlr s.2.2.2.2.1 s.1).2.1) g e) : hci (d + 2) 269 [.ref 1046, .int (nI z), .int f] g e k X := by
  have ez : (nI z).toNatClampNeg = z := nI_clamp (by omega)
  refine zh_X8_longestOf ?_
  refine hdown (W := fun p => hwi (d + 1) zm_X8_longestOf k X 11 [(0, .ref 1046), (1, .int (nI z)), (2, .int f), (3, .int (mlr s.2.2.2.2.1 p).1), (4, .int (mlr s.2.2.2.2.1 p).2.1), (5, .int (mlr s.2.2.2.2.1 p).2.2), (6, .int (nI p))] g e) (n := s.1) ?_ ?_ 0 (Nat.zero_le _)
  · refine zh_X8_longestOf_11 ⟨nI_in (by omega) (by omega), zbr_t (by rw [ez, hm.1]; exact nI_le (Nat.le_refl _) (by omega)) (zbr_ite (P := fun x => k x g e) H)⟩
  · intro p hp W
    rw [nI_succ] at W
    refine zh_X8_longestOf_11 ⟨nI_in (by omega) (by omega), zbr_f (by rw [ez, hm.1]; exact nI_ge hp (by omega)) ⟨nI_in (by omega) (by omega), ?_⟩⟩
    rw [ez, hm.2.2.2.2.1]
    refine cm_isOf (by omega) ?_
    unfold mlr at W
    cases q : bt s.2.2.2.2.1 p with
    | false =>
      rw [q] at W
      refine zbr_t rfl ⟨fun c => ?_, fun c => ?_⟩
      · rw [if_pos (show (mlr s.2.2.2.2.1 p).1 < (if false = true then (mlr s.2.2.2.2.1 p).2.2 + 1 else 0) from c)] at W; exact W
      · rw [if_neg (show ¬ (mlr s.2.2.2.2.1 p).1 < (if false = true then (mlr s.2.2.2.2.1 p).2.2 + 1 else 0) from c)] at W; exact W
    | true =>
      rw [q] at W
      refine zbr_f (by decide) ⟨fun c => ?_, fun c => ?_⟩
      · rw [if_pos (show (mlr s.2.2.2.2.1 p).1 < (if true = true then (mlr s.2.2.2.2.1 p).2.2 + 1 else 0) from c)] at W; exact W
      · rw [if_neg (show ¬ (mlr s.2.2.2.2.1 p).1 < (if true = true then (mlr s.2.2.2.2.1 p).2.2 + 1 else 0) from c)] at W; exact W
theorem jbc_C {v : Nat} (h : v < 65536) : jbc (nI v) = nI (jn v) := jbc_nI (by omega)
theorem cm_bitsC {C : Int32} (hC : ∃ v, v < 65536 ∧ C = nI v) (H : k (jbc C) g e) : hci (d + 1) 219 [.int C] g e k X := by
  obtain ⟨v, hv, rfl⟩ := hC
  rw [jbc_C hv] at H
  exact c_bitsOf (by omega) H
/-- code 0, as each call begins -/
theorem mdr_fr {L F : List Nat} {g g' : hG} (h : fr L F g g') (hL : ∀ b, b ∈ [1050, 1051, 1052, 1055, 1056, 1057, 1060, 1061, 1062, 1063] → ¬ b ∈ L) (hF : ¬ 31 ∈ F) (hm : mdr g x) : mdr g' x := by
  obtain ⟨a1, a2, a3, a4, a5⟩ := hm
  have q : ∀ b, b ∈ [1050, 1051, 1052, 1055, 1056, 1057, 1060, 1061, 1062, 1063] → g'.1 b = g.1 b := fun b hb => h.1 b (hL b hb) (by
    intro z
    subst z
    exact absurd hb (by decide))
  refine ⟨⟨⟨by rw [q _ (by decide)]; exact a1.1.1, a1.1.2⟩, fun z hz => ⟨mz_cg (a1.2 z hz).1 (q _ (by decide)) (q _ (by decide)) (q _ (by decide)) (q _ (by decide)) (q _ (by decide)) (q _ (by decide)), (a1.2 z hz).2⟩⟩, mrls_fr h (hL _ (by decide)) (hL _ (by decide)) (hL _ (by decide)) a2, mst_fr h (hL _ (by decide)) (hL _ (by decide)) a3, by rw [h.2.1 31 hF]; exact a4, a5⟩
theorem fr_code {c : Int32} : fr qL qF g (sI g 1046 4 c) := fr_fld (by decide)
theorem mdr_code {c : Int32} (hm : mdr g x) : mdr (sI g 1046 4 c) x := mdr_fr (L := []) (F := [4]) (fr_fld (by decide)) (by decide) (by decide) hm
theorem code_at {c : Int32} : (sI g 1046 4 c).1 1046 4 = c := by rw [sI_at, upd_at]
/-- the model refuses: its number -/
theorem cm_failQ {g0 : hG} {cd : Nat → Int32} {r : rs} {n : Nat} (hm : mdr g x) (hf : fr qL qF g0 g) (hr : r = .inr n) (H : ∀ g' v, fr qL qF g0 g' → mdr g' x → om cd r v g' → k v g' e) : hci (d + 1) 215 [.ref 1046, .int (cd n)] g e k X :=
  cm_fail (H _ _ (hf.trans fr_code) (mdr_code hm) (om_r hr code_at))
theorem mq_then (hm : mdr g x) {v n w : Int32} (H : ∀ g' u, fr qL qF g g' → mdr g' x → om c12 (o_then x v n w) u g' → k u g' e) : hci (d + 7) 286 [.ref 1046, .int v, .int n, .int w] g e k X := by
  have h4 := hm.1.1.2
  have hm0 : mdr (sI g 1046 4 0) x := mdr_code hm
  refine zh_X8_then (cm_isZip hm0.1.1.1 h4 (fun i hi hv => zbr_f (by decide) ?_) (fun h => zbr_t rfl (cm_failQ (cd := c12) (n := 1) hm0 fr_code (by unfold o_then; rw [iszb_f (by omega) h]; rfl) H)))
  subst hv
  refine cm_isInR (a := 0) (b := 4) (by omega) (by omega) (by decide) (by decide) (fun j _ hj hw => zbr_f (by decide) ?_) (fun h => zbr_t rfl (cm_failQ (cd := c12) (n := 1) hm0 fr_code (by
    unfold o_then
    rw [iszb_f (n := 5) (by omega) (fun z => h (by obtain ⟨i, hi, e⟩ := z; exact ⟨i, by omega, by omega, e⟩)), Bool.and_false]
    rfl) H))
  subst hw
  have hzw : (iszb x.1 (nI i) && iszb 5 (nI j)) = true := by rw [iszb_t (by omega) hi, iszb_t (by omega) (by omega)]; rfl
  refine cm_isInR (a := 0) (b := 60) (by omega) (by omega) (by decide) (by decide) (fun m _ hmm hn => zbr_f (by decide) ?_) (fun h => zbr_t rfl (cm_failQ (cd := c12) (n := 0) hm0 fr_code (by unfold o_then; rw [hzw, isrb_f (by omega) (by omega) h]; rfl) H))
  subst hn
  have hv : o_then x (nI i) (nI m) (nI j) = .inl (v_then x i m j) := by
    unfold o_then
    rw [hzw, isrb_t (by omega) (by omega) hmm, nI_clamp (by omega), nI_clamp (by omega), nI_clamp (by omega)]
    rfl
  have ei : (nI i).toNatClampNeg = i := nI_clamp (by omega)
  have hi4 : hin (nI i) 4 := nI_in (by omega) (by omega)
  refine cm_pack (o := 0) (show hT 1070 = some (.inl (0, 137)) from rfl) (by decide) (by decide) (by decide) (fun f pf _ => cm_beginAnew (fun g2 f2 b2 => ?_))
  have fA : fr qL qF g (aI (sI g 1046 4 0) 1070 f) := fr_code.A (by decide) (by decide)
  have mA : mdr (aI (sI g 1046 4 0) 1070 f) x := mdr_fr (L := [1070]) (F := []) (fr_aI (by decide) (by decide)) (by decide) (by decide) hm0
  have m2 : mdr g2 x := mdr_fr f2 (by decide) (by decide) mA
  have f02 : fr qL qF g g2 := fA.trans (f2.sub (by decide) (by decide))
  have r2 : g2.1 1070 = f := by rw [f2.1 1070 (by decide) (by decide)]; exact aI1 _ _ _
  have ht := m2.2.2.2.2
  refine cm_goOn (by omega) m2.1 m2.2.1 m2.2.2.1 m2.2.2.2.1 (by omega) (fun g3 f3 m3 b3 t3 => ?_)
  have f03 : fr qL qF g g3 := f02.trans (f3.sub (by decide) (by decide))
  have f00 : fr qL qF (sI g 1046 4 0) g3 := ((((fr.refl (L := qL) (F := qF) (g := sI g 1046 4 0)).A (a := 1070) (f := f) (by decide) (by decide)).trans (f2.sub (by decide) (by decide))).trans (f3.sub (by decide) (by decide)))
  have r3 : g3.1 1070 = f := by rw [f3.1 1070 (by decide) (by decide)]; exact r2
  have c3 : g3.1 1046 4 = 0 := by
    rw [f3.2.1 4 (by decide), f2.2.1 4 (by decide), show (aI (sI g 1046 4 0) 1070 f).1 1046 = (sI g 1046 4 0).1 1046 from aI_off _ _ (by decide)]
    exact code_at
  have mzi := (m3.2 i hi).1
  have oki := (m3.2 i hi).2
  have fin : ∀ u, u = v_then x i m j → hcv (d + 6) 250 [.ref 1046, .ref 1070, .int 0] g3 e (fun g26 e27 => k u g26 e27) X := by
    intro u hu
    refine cm_put (x := x) (g := sI g 1046 4 0) (L := qL) (F := qF) hm0 pf f00 r3 (by decide) (by decide) (by decide) (fun g4 f4 m4 _ u4 => ?_)
    refine H g4 u (fr_code.trans f4) m4 (om_l (by rw [hv, hu]) ?_)
    rw [u4.2.1 4 (by decide)]
    exact c3
  match j, hj with
  | 0, _ => exact zbr_t rfl ⟨hi4, fin _ (by rw [ei, mzi.2.2.2.2.1]; rfl)⟩
  | 1, _ => exact zbr_f (by decide) (zbr_t rfl ⟨hi4, by rw [ei, mzi.2.2.2.2.1]; exact cm_bitsC (sok_C oki) (fin _ rfl)⟩)
  | 2, _ => exact zbr_f (by decide) (zbr_f (by decide) (zbr_t rfl (cm_gripsOf (by omega) mzi oki.1.2 (fin _ rfl))))
  | 3, _ => exact zbr_f (by decide) (zbr_f (by decide) (zbr_f (by decide) (zbr_t rfl (cm_longestOf (by omega) mzi oki.1.2 (fin _ (by rw [if_pos rfl, (mlr_zlr _ _).1]; rfl))))))
  | 4, _ => exact zbr_f (by decide) (zbr_f (by decide) (zbr_f (by decide) (zbr_f (by decide) ⟨hi4, fin _ (by rw [ei, b3 i hi, b2 i (by omega), Int32.zero_add]; rfl)⟩)))
  | n + 5, h => exact absurd h (by omega)
end
