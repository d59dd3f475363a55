/-! the book of the class: pages -/
theorem aJ1 (g : hG) (a : Nat) (f : Nat → Int64) : (aJ g a f).2.1 a = f := va_up_at _ _ _
theorem aJ_off (g : hG) {a b : Nat} (f : Nat → Int64) (h : ¬ b = a) : (aJ g a f).2.1 b = g.2.1 b := va_up_off _ _ h
theorem sJ_aJ (g : hG) (a i : Nat) (f : Nat → Int64) (v : Int64) : sJ (aJ g a f) a i v = aJ g a (vp_updL f i v) := by
  unfold sJ aJ
  show (g.1, va_up (va_up g.2.1 a f) a (vp_updL (va_up g.2.1 a f a) i v), g.2.2) = _
  rw [va_up_at, va_up_up]
theorem aJ_id (g : hG) (a : Nat) : aJ g a (g.2.1 a) = g := by
  unfold aJ
  rw [va_up_id]
section
variable {d : Nat} {k : Int32 → hG → hE → Prop} {kv : hG → hE → Prop} {X : Nat → hG → hE → Prop} {g : hG} {e : hE} {D : Nat} {x : sX}
theorem cdr_aJ {R : Nat} {f : Nat → Int64} (hR : 1028 ≤ R) (hc : cdr g D x) : cdr (aJ g R f) D x := by
  have hl := hD_lt hc.1.1
  exact cdr_cg (g := g) (fun b _ => rfl) (fun b hb => aJ_off _ _ (by omega)) rfl hc
theorem pg_now (hc : cdr g D x) : pgok x (xnow x) := ⟨fun z hz => ⟨(hc.2.2.1 z hz).2.1, rfl, rfl⟩, hc.2.2.2.2.2.2⟩
theorem c_write (hc : cdr g D x) {R n o : Nat} (hR : hT R = some (.inl (1, n))) (hR' : 1028 ≤ R) (ho : o + 13 ≤ n) (hn : n < 2 ^ 20) (H : ∀ f, cpg f o x (xnow x) → (∀ i, i < o ∨ o + 13 ≤ i → f i = g.2.1 R i) → kv (aJ g R f) e) : hcv (d + 4) 27 [.ref D, .ref R, .int (nI o)] g e kv X := by
  have h4 := hc.2.1.2
  have hD' := hc.1.1
  refine zh_X0_write hD' hR (zbr_f (nI_pos (by omega)) (zbr_t (by rw [show (13 : Int32) = nI 13 from rfl, nI_add]; exact nI_le ho (by omega)) ?_))
  have e12 : nI o + 13 - 1 = nI (o + 12) := by rw [show (13 : Int32) = nI 13 from rfl, nI_add, nI_sub1 (by omega)]; rfl
  have main : ∀ z, z ≤ x.1 → ∀ f, (∀ z', z' < z → cpz f (o + 3 * z') (x.2.1 z')) → (∀ i, i < o ∨ o + 13 ≤ i → f i = g.2.1 R i) → hwv (d + 3) zm_X0_write kv X 16 [(0, .ref D), (1, .ref R), (2, .int (nI o)), (3, .int (nI z))] (aJ g R f) e := by
    refine hdown ?_ ?_
    · intro f A B
      have hc1 : cdr (aJ g R f) D x := cdr_aJ hR' hc
      refine zh_X0_write_16 hD' hR (zh_X2_zipCount hD' (zbr_t (by rw [hc1.2.1.1]; exact nI_le (Nat.le_refl _) (by omega)) (zh_X2_today hD' ?_)))
      rw [hc1.2.2.2.2.2.1, e12, nI_clamp (by omega), sJ_aJ]
      refine ⟨nI_in (by omega) (by omega), H _ ⟨pg_now hc, fun z hz => ?_, pk_uLs⟩ (fun i hi => ?_)⟩
      · obtain ⟨a, b, c⟩ := A z hz
        refine ⟨fun p hp => ?_, fun p hp => ?_, ?_⟩
        · rw [pk_uLn (by omega)]; exact a p hp
        · rw [pk_uLn (by omega)]; exact b p hp
        · rw [pk_uLn (by omega)]; exact c
      · rw [pk_uLn (by omega)]; exact B i hi
    · intro z hz W f A B
      have hc1 : cdr (aJ g R f) D x := cdr_aJ hR' hc
      have hz4 : z < 4 := by omega
      have ct1 := hc.2.2.1 z hz
      have hl := hD_lt hD'
      have hT1 := hT_zip (D := D) hD' hz4
      have e3 : nI o + 3 * nI z = nI (o + 3 * z) := by rw [show (3 : Int32) = nI 3 from rfl, pk_mul, nI_add]
      have e32 : nI (o + 3 * z) + 2 = nI (o + 3 * z + 2) := by rw [show (2 : Int32) = nI 2 from rfl, nI_add]
      refine zh_X0_write_16 hD' hR (zh_X2_zipCount hD' (zbr_f (by rw [hc1.2.1.1]; exact nI_ge hz (by omega)) (zbr_f (by rw [show (4 : Int32) = nI 4 from rfl]; exact nI_ge hz4 (by omega)) (c_zipAt hc1 hz ⟨hT1, zh_X6_leftGrips hT1 ?_⟩))))
      rw [e3, nI_1, nI_1, e32, nI_clamp (show o + 3 * z < 2 ^ 31 by omega), nI_clamp (show o + 3 * z + 1 < 2 ^ 31 by omega), nI_clamp (show o + 3 * z + 2 < 2 ^ 31 by omega), sJ_aJ]
      refine ⟨nI_in (by omega) (by omega), zh_X6_rightGrips hT1 ⟨nI_in (by omega) (by omega), ?_⟩⟩
      rw [sJ_aJ]
      refine zh_X6_stateBits hT1 ⟨nI_in (by omega) (by omega), ?_⟩
      rw [sJ_aJ, aJ_off _ _ (show ¬ D + 2 + z = R by omega), aJ_off _ _ (show ¬ D + 2 + z = R by omega)]
      refine W _ (fun z' hz' => ?_) (fun i hi => ?_)
      · by_cases c : z' = z
        · subst c
          refine ⟨fun p hp => ?_, fun p hp => ?_, ?_⟩
          · rw [pk_uLn (by omega), pk_uLn (by omega), pk_uLs]; exact ct1.1.2.2.1 p hp
          · rw [pk_uLn (by omega), pk_uLs]; exact ct1.1.2.2.2.1 p hp
          · rw [pk_uLs]
            rw [show (aJ g R (vp_updL (vp_updL f (o + 3 * z') (g.2.1 (D + 2 + z') 2)) (o + 3 * z' + 1) (g.2.1 (D + 2 + z') 3))).1 (D + 2 + z') 4 = (x.2.1 z').2.2.2.2.1 from ct1.1.2.2.2.2.1, show (aJ g R (vp_updL (vp_updL f (o + 3 * z') (g.2.1 (D + 2 + z') 2)) (o + 3 * z' + 1) (g.2.1 (D + 2 + z') 3))).1 (D + 2 + z') 5 = nI (x.2.1 z').2.2.2.2.2 from ct1.1.2.2.2.2.2]
        · obtain ⟨a, b, c⟩ := A z' (by omega)
          refine ⟨fun p hp => ?_, fun p hp => ?_, ?_⟩
          · rw [pk_uLn (by omega), pk_uLn (by omega), pk_uLn (by omega)]; exact a p hp
          · rw [pk_uLn (by omega), pk_uLn (by omega), pk_uLn (by omega)]; exact b p hp
          · rw [pk_uLn (by omega), pk_uLn (by omega), pk_uLn (by omega)]; exact c
      · rw [pk_uLn (by omega), pk_uLn (by omega), pk_uLn (by omega)]; exact B i hi
  have := main 0 (Nat.zero_le _) (g.2.1 R) (fun z h => absurd h (Nat.not_lt_zero _)) (fun _ _ => rfl)
  rw [aJ_id] at this
  exact this
/-- what a page that is read may touch: the zips, the day -/
def rdf (D : Nat) (g g' : hG) : Prop := (∀ b, ¬ (D + 2 ≤ b ∧ b ≤ D + 5) → ¬ b = D → g'.1 b = g.1 b) ∧ (∀ k, ¬ k = 8 → g'.1 D k = g.1 D k) ∧ (∀ b, ¬ (D + 2 ≤ b ∧ b ≤ D + 5) → g'.2.1 b = g.2.1 b) ∧ g'.2.2 = g.2.2
theorem rdf.refl : rdf D g g := ⟨fun _ _ _ => rfl, fun _ _ => rfl, fun _ _ => rfl, rfl⟩
theorem rdf.trans {g' g'' : hG} (h : rdf D g g') (h' : rdf D g' g'') : rdf D g g'' := ⟨fun b q r => (h'.1 b q r).trans (h.1 b q r), fun k q => (h'.2.1 k q).trans (h.2.1 k q), fun b q => (h'.2.2.1 b q).trans (h.2.2.1 b q), h'.2.2.2.trans h.2.2.2⟩
theorem rdf_zp {i : Nat} (hi : i < 4) (z : cZ) : rdf D g (zp g (D + 2 + i) z) := ⟨fun b q _ => va_up_off _ _ (by omega), fun k _ => congrFun (va_up_off _ _ (by omega)) k, fun b q => va_up_off _ _ (by omega), rfl⟩
theorem c_zipAtN {kr : Nat → hG → hE → Prop} (hD' : hD D) {n i : Nat} (hn : g.1 D 1 = nI n) (h4 : n ≤ 4) (hi : i < n) (H : kr (D + 2 + i) g e) : hcr (d + 2) 48 [.ref D, .int (nI i)] g e kr X := by
  refine zh_X2_zipAt hD' (zbr_f (nI_pos (by omega)) (zbr_f (nI_ge (by omega) (by omega)) ⟨D + 2 + i, nI_in (by omega) (by omega), ?_, hT_zip hD' (by omega), H⟩))
  rw [nI_clamp (by omega)]
  exact hR_zip hD' (by omega)
theorem c_read (hc : cdr g D x) {P : sP} {R n o : Nat} (hR : hT R = some (.inl (1, n))) (hR' : 1028 ≤ R) (ho : o + 13 ≤ n) (hn : n < 2 ^ 20) (hp : cpg (g.2.1 R) o x P) (H : ∀ g', rdf D g g' → cdr g' D (xpg x P) → kv g' e) : hcv (d + 4) 28 [.ref D, .ref R, .int (nI o)] g e kv X := by
  have h4 := hc.2.1.2
  have hD' := hc.1.1
  have hl := hD_lt hD'
  obtain ⟨pok, pz, pd⟩ := hp
  refine zh_X0_read hD' hR (zbr_f (nI_pos (by omega)) (zbr_t (by rw [show (13 : Int32) = nI 13 from rfl, nI_add]; exact nI_le ho (by omega)) ?_))
  have e12 : nI o + 13 - 1 = nI (o + 12) := by rw [show (13 : Int32) = nI 13 from rfl, nI_add, nI_sub1 (by omega)]; rfl
  have main : ∀ z, z ≤ x.1 → ∀ g1, rdf D g g1 → g1.1 D 8 = g.1 D 8 → (∀ z', z' < z → ct x.2.2.2.1 g1 (D + 2 + z') (P.1 z')) → (∀ z', z ≤ z' → z' < x.1 → zg g1 (D + 2 + z') = zg g (D + 2 + z')) → hwv (d + 3) zm_X0_read kv X 16 [(0, .ref D), (1, .ref R), (2, .int (nI o)), (3, .int (nI z))] g1 e := by
    refine hdown ?_ ?_
    · intro g1 f1 d1 A B
      have c1 : g1.1 D 1 = nI x.1 := by rw [f1.2.1 1 (by omega)]; exact hc.2.1.1
      refine zh_X0_read_16 hD' hR (zh_X2_zipCount hD' (zbr_t (by rw [c1]; exact nI_le (Nat.le_refl _) (by omega)) ?_))
      rw [e12, nI_clamp (by omega), f1.2.2.1 R (by omega), pd, Int32.toInt32_toInt64]
      refine ⟨nI_in (by omega) (by omega), zh_X2_turnTo hD' ?_⟩
      have f2 : rdf D g (sI g1 D 8 (nI P.2)) := f1.trans ⟨fun b _ q => sI_off _ q, fun k q => by rw [sI_at, upd_off _ _ q], fun _ _ => rfl, rfl⟩
      refine H _ f2 (cdr_pg hc (fun k q _ => f2.2.1 k q) (f2.1 _ (by omega) (by omega)) (f2.1 _ (by omega) (by omega)) (f2.1 _ (by omega) (by omega)) (f2.1 _ (by omega) (by omega)) (by rw [f2.2.2.2]) (fun z hz => ct_cg (zg_cg (sI_off _ (by omega)) rfl) (A z hz)) (by rw [sI_at, upd_at]) pok.2)
    · intro z hz W g1 f1 d1 A B
      have hz4 : z < 4 := by omega
      have hT1 := hT_zip (D := D) hD' hz4
      have c1 : g1.1 D 1 = nI x.1 := by rw [f1.2.1 1 (by omega)]; exact hc.2.1.1
      have e3 : nI o + 3 * nI z = nI (o + 3 * z) := by rw [show (3 : Int32) = nI 3 from rfl, pk_mul, nI_add]
      have e32 : nI (o + 3 * z) + 2 = nI (o + 3 * z + 2) := by rw [show (2 : Int32) = nI 2 from rfl, nI_add]
      obtain ⟨k1, k2, k3⟩ := pok.1 z hz
      obtain ⟨p1, p2, p3⟩ := pz z hz
      have b1 := B z (Nat.le_refl _) hz
      have ctz0 := hc.2.2.1 z hz
      refine zh_X0_read_16 hD' hR (zh_X2_zipCount hD' (zbr_f (by rw [c1]; exact nI_ge hz (by omega)) (zbr_f (by rw [show (4 : Int32) = nI 4 from rfl]; exact nI_ge hz4 (by omega)) ?_)))
      refine ⟨by rw [e3, e32]; exact nI_in (by omega) (by omega), c_zipAtN hD' c1 h4 hz ⟨hT1, ?_⟩⟩
      rw [e3, nI_1, e32, nI_clamp (show o + 3 * z < 2 ^ 31 by omega), nI_clamp (show o + 3 * z + 1 < 2 ^ 31 by omega), nI_clamp (show o + 3 * z + 2 < 2 ^ 31 by omega), f1.2.2.1 R (by omega), p3]
      refine ⟨nI_in (by omega) (by omega), nI_in (by omega) (by omega), zh_X6_takeState hT1 ?_⟩
      rw [(stb_s k1).1, (stb_s k1).2, s6, s2, zp_zp, zg_zp, s3, zp_zp, zg_zp, s4, zp_zp, zg_zp, s5, zp_zp, zg_zp, nI_1]
      refine W _ (f1.trans (rdf_zp hz4 _)) ?_ (fun z' hz' => ?_) (fun z' h1 h2 => ?_)
      · rw [show (zp g1 (D + 2 + z) _).1 D = g1.1 D from va_up_off _ _ (by omega)]; exact d1
      · by_cases c : z' = z
        · subst c
          unfold ct
          rw [zg_zp]
          refine ⟨⟨?_, ?_, p1, p2, rfl, rfl⟩, k1, hv_0 _ _⟩
          · show (zg g1 (D + 2 + z')).1 = _
            rw [b1, ctz0.1.1, k2]
          · show (zg g1 (D + 2 + z')).2.1 = _
            rw [b1, ctz0.1.2.1, k3]
        · exact ct_cg (zg_off _ _ (by omega)) (A z' (by omega))
      · rw [zg_off _ _ (by omega)]; exact B z' (by omega) h2
  exact main 0 (Nat.zero_le _) g rdf.refl rfl (fun z h => absurd h (Nat.not_lt_zero _)) (fun _ _ _ => rfl)
/-- an act more; the oldest one gives way -/
def akeep (x : sX) (as : List sP) : List sP := (if as.length = 40 then as.drop 1 else as) ++ [xnow x]
def skeep (x : sX) (b : sB) : sB := (akeep x b.1, b.2)
/-- what a book's page may touch -/
def bkf (g g' : hG) : Prop := (∀ b, ¬ b = 1027 → g'.1 b = g.1 b) ∧ (∀ k, ¬ k = 1 → g'.1 1027 k = g.1 1027 k) ∧ (∀ b, ¬ b = 1028 → g'.2.1 b = g.2.1 b) ∧ g'.2.2 = g.2.2
theorem cpg_cg {f f' : Nat → Int64} {o o' : Nat} {P : sP} (h : ∀ i, i < 13 → f' (o' + i) = f (o + i)) (h4 : x.1 ≤ 4) (hp : cpg f o x P) : cpg f' o' x P := by
  obtain ⟨a, b, c⟩ := hp
  refine ⟨a, fun z hz => ?_, by rw [h 12 (by omega)]; exact c⟩
  obtain ⟨b1, b2, b3⟩ := b z hz
  have e0 := h (3 * z) (by omega)
  have e1 := h (3 * z + 1) (by omega)
  have e2 := h (3 * z + 2) (by omega)
  rw [← Nat.add_assoc, ← Nat.add_assoc] at e1 e2
  exact ⟨by rw [e0]; exact b1, by rw [e1]; exact b2, by rw [e2]; exact b3⟩
theorem c_beginAct (hc : cdr g D x) {as : List sP} (ha : cac (g.2.1 1028) (g.1 1027 1) x as) (H : ∀ g', bkf g g' → cac (g'.2.1 1028) (g'.1 1027 1) x (akeep x as) → kv g' e) : hcv (d + 6) 23 [.ref 1027, .ref D] g e kv X := by
  have h4 := hc.2.1.2
  have hD' := hc.1.1
  have hl := hD_lt hD'
  have hB' : hB 1027 := Or.inl rfl
  obtain ⟨a1, a2, a3⟩ := ha
  have main : ∀ (as : List sP) (g1 : hG), bkf g g1 → cdr g1 D x → as.length < 40 → g1.1 1027 1 = nI as.length → (∀ i P, as[i]? = some P → cpg (g1.2.1 1028) (13 * i) x P) → (∀ g', bkf g g' → cac (g'.2.1 1028) (g'.1 1027 1) x (as ++ [xnow x]) → kv g' e) → hwv (d + 5) zm_X0_beginAct kv X 32 [(0, .ref 1027), (1, .ref D)] g1 e := by
    intro as g1 f1 hc1 l1 n1 A H
    refine zh_X0_beginAct_32 hB' hD' ?_
    rw [n1, show (13 : Int32) = nI 13 from rfl, pk_mul]
    refine c_write hc1 (R := 1028) (n := 520) rfl (by omega) (by omega) (by omega) (fun f pf of => H _ ?_ ?_)
    · refine ⟨fun b hb => ?_, fun k hk => ?_, fun b hb => ?_, f1.2.2.2⟩
      · rw [sI_off _ hb]; exact f1.1 b hb
      · rw [sI_at, upd_off _ _ hk]; exact f1.2.1 k hk
      · show (aJ g1 1028 f).2.1 b = _
        rw [aJ_off _ _ hb]; exact f1.2.2.1 b hb
    · show cac ((aJ g1 1028 f).2.1 1028) _ x _
      rw [aJ1, sI_at, upd_at, show (aJ g1 1028 f).1 1027 1 = nI as.length from n1, nI_1]
      refine ⟨by rw [List.length_append]; rfl, by rw [List.length_append]; show as.length + 1 ≤ 40; omega, fun i P hi => ?_⟩
      by_cases c : i < as.length
      · rw [List.getElem?_append_left c] at hi
        exact cpg_cg (fun j hj => of _ (by omega)) h4 (A i P hi)
      · rw [List.getElem?_append_right (by omega)] at hi
        have : i - as.length < 1 := (List.getElem?_eq_some_iff.mp hi).1
        have e : i = as.length := by omega
        subst e
        rw [Nat.sub_self] at hi
        rw [← Option.some.inj hi, Nat.mul_comm]
        exact pf
  refine zh_X0_beginAct hB' hD' ?_
  rw [a1]
  by_cases c : as.length = 40
  · refine zbr_f (by rw [c]; decide) ⟨by unfold hcpin; decide, ?_⟩
    rintro g2 rfl
    have hd : ∀ i P, (as.drop 1)[i]? = some P → as[i + 1]? = some P := by
      intro i P hi
      rw [List.getElem?_drop] at hi
      rw [Nat.add_comm]
      exact hi
    refine main (as.drop 1) _ ?_ ?_ ?_ ?_ ?_ ?_
    · refine ⟨fun b hb => by rw [sI_off _ hb]; rfl, fun k hk => by rw [sI_at, upd_off _ _ hk]; rfl, fun b hb => aJ_off _ _ hb, rfl⟩
    · exact cdr_cg (g := g) (fun b hb => by rw [sI_off _ (by omega)]; rfl) (fun b hb => aJ_off _ _ (by omega)) rfl hc
    · rw [List.length_drop]; omega
    · rw [sI_at, upd_at, List.length_drop, c]; rfl
    · intro i P hi
      have := (List.getElem?_eq_some_iff.mp hi).1
      rw [List.length_drop, c] at this
      show cpg ((aJ g 1028 _).2.1 1028) _ x P
      rw [aJ1]
      refine cpg_cg (fun j hj => ?_) h4 (a3 (i + 1) P (hd i P hi))
      rw [show (13 : Int32).toNatClampNeg = 13 from rfl, show (0 : Int32).toNatClampNeg = 0 from rfl, show (507 : Int32).toNatClampNeg = 507 from rfl, pk_cpy_in (by omega) (by omega), show 13 + (13 * i + j - 0) = 13 * (i + 1) + j by omega]
    · unfold akeep at H
      rw [if_pos c] at H
      exact H
  · refine zbr_t (by rw [show (40 : Int32) = nI 40 from rfl]; exact nI_lt (by omega) (by omega)) (main as g ⟨fun _ _ => rfl, fun _ _ => rfl, fun _ _ => rfl, rfl⟩ hc (by omega) a1 a3 ?_)
    unfold akeep at H
    rw [if_neg c] at H
    exact H
end
