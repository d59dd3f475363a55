/-! THE WHOLE STATE: drawer; book (acts, notes, refused); image; tape; fault -/
abbrev sP : Type := (Nat → sZ) × Nat
abbrev sB : Type := List sP × List sN × (Nat → Int32)
abbrev sS : Type := sX × sB × Option (sP × sB) × (Nat × (Nat → Nat)) × Int32
def xpg (x : sX) (P : sP) : sX := (x.1, P.1, x.2.2.1, x.2.2.2.1, x.2.2.2.2.1, P.2)
def xnow (x : sX) : sP := (x.2.1, x.2.2.2.2.2)
def pgok (x : sX) (P : sP) : Prop := (∀ z, z < x.1 → sok (P.1 z) ∧ (P.1 z).1 = (x.2.1 z).1 ∧ (P.1 z).2.1 = (x.2.1 z).2.1) ∧ P.2 ≤ 999
/-- what a text says stays -/
def stt (x x' : sX) : Prop := x'.1 = x.1 ∧ ∀ z, z < x.1 → (x'.2.1 z).1 = (x.2.1 z).1 ∧ (x'.2.1 z).2.1 = (x.2.1 z).2.1
theorem stt.refl {x : sX} : stt x x := ⟨rfl, fun _ _ => ⟨rfl, rfl⟩⟩
theorem pgok_st {x x' : sX} {P : sP} (h : stt x x') (hp : pgok x P) : pgok x' P := by
  refine ⟨fun z hz => ?_, hp.2⟩
  rw [h.1] at hz
  obtain ⟨a, b, c⟩ := hp.1 z hz
  obtain ⟨d, f⟩ := h.2 z hz
  exact ⟨a, by rw [b, d], by rw [c, f]⟩
theorem stt_pg {x : sX} {P : sP} (h : pgok x P) : stt x (xpg x P) := ⟨rfl, fun z hz => (h.1 z hz).2⟩
/-- a page of the class -/
def cpz (f : Nat → Int64) (i : Nat) (s : sZ) : Prop := (∀ p, p < 16 → gr (f i) p = nI (s.2.2.1 p)) ∧ (∀ p, p < 16 → gr (f (i + 1)) p = nI (s.2.2.2.1 p)) ∧ f (i + 2) = (s.2.2.2.2.1 ||| (nI s.2.2.2.2.2 <<< ((16 : Int32) &&& 31))).toInt64
def cpg (f : Nat → Int64) (o : Nat) (x : sX) (P : sP) : Prop := pgok x P ∧ (∀ z, z < x.1 → cpz f (o + 3 * z) (P.1 z)) ∧ f (o + 12) = (nI P.2).toInt64
def cac (f : Nat → Int64) (n : Int32) (x : sX) (as : List sP) : Prop := n = nI as.length ∧ as.length ≤ 40 ∧ ∀ i P, as[i]? = some P → cpg f (13 * i) x P
def cbk (g : hG) (B : Nat) (x : sX) (b : sB) : Prop := cac (g.2.1 (B + 1)) (g.1 B 1) x b.1 ∧ (cnt g B b.2.1 ∧ wfn x.1 b.2.1) ∧ ∀ k, k < 3 → g.1 (B + 3) k = b.2.2 k
def sby8 (b : Nat) : Int32 := if b < 128 then nI b else nI b - 256
def ctp (g : hG) (t : Nat × (Nat → Nat)) : Prop := g.1 1001 1 = nI t.1 ∧ t.1 ≤ 700 ∧ ∀ i, i < t.1 → g.1 1002 i = sby8 (t.2 i) ∧ t.2 i < 256
def ckp (g : hG) (x : sX) (o : Option (sP × sB)) : Prop := match o with
  | none => g.1 1000 5 = 0
  | some r => g.1 1000 5 = 1 ∧ cbk g 1032 x r.2 ∧ cpg (g.2.1 1036) 0 x r.1
def RC (g : hG) (D : Nat) (s : sS) : Prop := cdr g D s.1 ∧ g.2.2 1001 7 = 2018 - D ∧ cbk g 1027 s.1 s.2.1 ∧ ckp g s.1 s.2.2.1 ∧ ctp g s.2.2.2.1 ∧ g.1 1000 1 = s.2.2.2.2
/-- a page of the model -/
def mpz (f : Nat → Int32) (o z : Nat) (s : sZ) : Prop := f (o + 1 + z) = nI s.2.2.2.2.2 ∧ f (o + 5 + z) = s.2.2.2.2.1 ∧ ∀ p, p < 16 → f (o + 9 + 2 * (16 * z + p)) = nI (s.2.2.1 p) ∧ f (o + 10 + 2 * (16 * z + p)) = nI (s.2.2.2.1 p)
def mpg (f : Nat → Int32) (o : Nat) (x : sX) (P : sP) : Prop := pgok x P ∧ f o = nI P.2 ∧ ∀ z, z < x.1 → mpz f o z (P.1 z)
def mac (f : Nat → Int32) (n : Int32) (x : sX) (as : List sP) : Prop := n = nI as.length ∧ as.length ≤ 40 ∧ ∀ i P, as[i]? = some P → mpg f (137 * i) x P
def ntf (n : Int32) (f1 f2 f3 f4 : Nat → Int32) (nt : List sN) : Prop := n = nI nt.length ∧ ∀ i n, nt[i]? = some n → f1 i = nI n.1 ∧ f2 i = nI n.2.1 ∧ f3 i = nI n.2.2.1 ∧ f4 i = nI n.2.2.2
def mbk (na nn : Int32) (f0 f1 f2 f3 f4 f5 : Nat → Int32) (x : sX) (b : sB) : Prop := mac f0 na x b.1 ∧ (ntf nn f1 f2 f3 f4 b.2.1 ∧ wfn x.1 b.2.1) ∧ ∀ k, k < 3 → f5 k = b.2.2 k
def mkp (g : hG) (x : sX) (o : Option (sP × sB)) : Prop := match o with
  | none => g.1 1046 52 = 0
  | some r => g.1 1046 52 = 1 ∧ mbk (g.1 1046 53) (g.1 1046 54) (g.1 1082) (g.1 1083) (g.1 1084) (g.1 1085) (g.1 1086) (g.1 1087) x r.2 ∧ mpg (g.1 1081) 0 x r.1
def mtp (g : hG) (t : Nat × (Nat → Nat)) : Prop := g.1 1046 15 = nI t.1 ∧ t.1 ≤ 700 ∧ ∀ i, i < t.1 → g.1 1059 i = nI (t.2 i) ∧ t.2 i < 256
def RM (g : hG) (s : sS) : Prop := mdr g s.1 ∧ mbk (g.1 1046 32) (g.1 1046 33) (g.1 1064) (g.1 1073) (g.1 1074) (g.1 1075) (g.1 1076) (g.1 1058) s.1 s.2.1 ∧ mkp g s.1 s.2.2.1 ∧ mtp g s.2.2.2.1 ∧ g.1 1046 24 = s.2.2.2.2
/-- frames: of the class, of the model -/
def cfr (g g' : hG) : Prop := ∀ b, ¬ (1000 ≤ b ∧ b < 1046) → g'.1 b = g.1 b ∧ g'.2.1 b = g.2.1 b ∧ g'.2.2 b = g.2.2 b
def mfr (g g' : hG) : Prop := ∀ b, b < 1046 ∨ b = 1088 → g'.1 b = g.1 b ∧ g'.2.1 b = g.2.1 b ∧ g'.2.2 b = g.2.2 b
theorem cfr.refl {g : hG} : cfr g g := fun _ _ => ⟨rfl, rfl, rfl⟩
theorem mfr.refl {g : hG} : mfr g g := fun _ _ => ⟨rfl, rfl, rfl⟩
theorem cfr.trans {g g' g'' : hG} (h : cfr g g') (h' : cfr g' g'') : cfr g g'' := fun b hb => ⟨(h' b hb).1.trans (h b hb).1, (h' b hb).2.1.trans (h b hb).2.1, (h' b hb).2.2.trans (h b hb).2.2⟩
theorem mfr.trans {g g' g'' : hG} (h : mfr g g') (h' : mfr g' g'') : mfr g g'' := fun b hb => ⟨(h' b hb).1.trans (h b hb).1, (h' b hb).2.1.trans (h b hb).2.1, (h' b hb).2.2.trans (h b hb).2.2⟩
theorem cfr_qf {D : Nat} {g g' : hG} (hD' : hD D) (h : qf D g g') : cfr g g' := fun b hb => by
  have := hD_lt hD'
  exact ⟨h.1 b (by omega) (by omega) (by omega) (by omega), h.2.2.1 b (by omega), by rw [h.2.2.2]⟩
theorem mfr_fr {L F : List Nat} {g g' : hG} (hL : ∀ b, b ∈ L → 1046 ≤ b ∧ b ≤ 1087) (h : fr L F g g') : mfr g g' := fun b hb => ⟨h.1 b (fun z => by have := hL b z; omega) (by omega), by rw [h.2.2], by rw [h.2.2]⟩
theorem RM_cfr {g g' : hG} {s : sS} (h : cfr g g') (hm : RM g s) : RM g' s := by
  have q : ∀ b, 1046 ≤ b → g'.1 b = g.1 b := fun b hb => (h b (by omega)).1
  obtain ⟨h1, h2, h3, h4, h5⟩ := hm
  refine ⟨?_, ?_, ?_, ?_, ?_⟩
  · obtain ⟨a1, a2, a3, a4, a5⟩ := h1
    refine ⟨⟨⟨by rw [q 1050 (by omega)]; exact a1.1.1, a1.1.2⟩, fun z hz => ⟨mz_cg (a1.2 z hz).1 (q _ (by omega)) (q _ (by omega)) (q _ (by omega)) (q _ (by omega)) (q _ (by omega)) (q _ (by omega)), (a1.2 z hz).2⟩⟩, ?_, ?_, by rw [q 1046 (by omega)]; exact a4, a5⟩
    · unfold mrls
      rw [q 1050 (by omega), q 1056 (by omega), q 1057 (by omega)]
      exact a2
    · unfold mst
      rw [q 1050 (by omega), q 1055 (by omega)]
      exact a3
  · rw [q 1046 (by omega), q 1064 (by omega), q 1073 (by omega), q 1074 (by omega), q 1075 (by omega), q 1076 (by omega), q 1058 (by omega)]
    exact h2
  · unfold mkp at h3 ⊢
    split
    · rename_i e
      rw [e] at h3
      rw [q 1046 (by omega)]
      exact h3
    · rename_i r e
      rw [e] at h3
      rw [q 1046 (by omega), q 1082 (by omega), q 1083 (by omega), q 1084 (by omega), q 1085 (by omega), q 1086 (by omega), q 1087 (by omega), q 1081 (by omega)]
      exact h3
  · unfold mtp
    rw [q 1046 (by omega), q 1059 (by omega)]
    exact h4
  · rw [q 1046 (by omega)]; exact h5
theorem cbk_cg {g g' : hG} {B : Nat} {x : sX} {b : sB} (h0 : g'.1 B = g.1 B) (h1 : g'.2.1 (B + 1) = g.2.1 (B + 1)) (h2 : g'.1 (B + 2) = g.1 (B + 2)) (h3 : g'.1 (B + 3) = g.1 (B + 3)) (h : cbk g B x b) : cbk g' B x b := by
  unfold cbk cnt
  rw [h0, h1, h2, h3]
  exact h
theorem ckp_cg {g g' : hG} {x : sX} {o : Option (sP × sB)} (h0 : g'.1 1000 5 = g.1 1000 5) (h1 : g'.1 1032 = g.1 1032) (h2 : g'.2.1 1033 = g.2.1 1033) (h3 : g'.1 1034 = g.1 1034) (h4 : g'.1 1035 = g.1 1035) (h5 : g'.2.1 1036 = g.2.1 1036) (h : ckp g x o) : ckp g' x o := by
  unfold ckp at h ⊢
  split
  · rename_i e
    rw [h0]; exact h
  · rw [h0, h5]
    exact ⟨h.1, cbk_cg h1 h2 h3 h4 h.2.1, h.2.2⟩
theorem cdr_pg {g g' : hG} {D : Nat} {x : sX} {P : sP} (h : cdr g D x) (h0 : ∀ k, ¬ k = 8 → ¬ k = 9 → g'.1 D k = g.1 D k) (h6 : g'.1 (D + 6) = g.1 (D + 6)) (h7 : g'.1 (D + 7) = g.1 (D + 7)) (h8 : g'.1 (D + 8) = g.1 (D + 8)) (h10 : g'.1 (D + 10) = g.1 (D + 10)) (h2 : g'.2.2 1000 2 = g.2.2 1000 2) (hz : ∀ z, z < x.1 → ct x.2.2.2.1 g' (D + 2 + z) (P.1 z)) (hd : g'.1 D 8 = nI P.2) (h9 : P.2 ≤ 999) : cdr g' D (xpg x P) := by
  obtain ⟨a1, a2, a3, a4, a5, a6⟩ := h
  obtain ⟨u1, u2⟩ := hD_us a1.1
  refine ⟨⟨a1.1, by rw [h2]; exact a1.2⟩, ⟨by rw [h0 1 (by omega) (by omega)]; exact a2.1, a2.2⟩, hz, ?_, ⟨rule1_cg h8 (by rw [u1]; exact h7) a5.1, rule1_cg h10 (by rw [u2]; exact h7) a5.2⟩, hd, h9⟩
  rw [h0 3 (by omega) (by omega), h6]
  exact a4
theorem cdr_cg {g g' : hG} {D : Nat} {x : sX} (h0 : ∀ b, (D ≤ b ∧ b ≤ D + 11) → g'.1 b = g.1 b) (h1 : ∀ b, (D ≤ b ∧ b ≤ D + 11) → g'.2.1 b = g.2.1 b) (h2 : g'.2.2 1000 2 = g.2.2 1000 2) (h : cdr g D x) : cdr g' D x := by
  have h4 := h.2.1.2
  refine cdr_pg (P := xnow x) h (fun k _ _ => by rw [h0 D (by omega)]) (h0 _ (by omega)) (h0 _ (by omega)) (h0 _ (by omega)) (h0 _ (by omega)) h2 (fun z hz => ct_cg (zg_cg (h0 _ (by omega)) (h1 _ (by omega))) (h.2.2.1 z hz)) (by rw [h0 D (by omega)]; exact h.2.2.2.2.2.1) h.2.2.2.2.2.2
theorem ctp_cg {g g' : hG} {t : Nat × (Nat → Nat)} (h0 : g'.1 1001 1 = g.1 1001 1) (h1 : g'.1 1002 = g.1 1002) (h : ctp g t) : ctp g' t := by
  unfold ctp
  rw [h0, h1]
  exact h
theorem RC_mfr {g g' : hG} {D : Nat} {s : sS} (h : mfr g g') (hm : RC g D s) : RC g' D s := by
  obtain ⟨h1, h2, h3, h4, h5, h6⟩ := hm
  have hl := hD_lt h1.1.1
  have q : ∀ b, b < 1046 → g'.1 b = g.1 b := fun b hb => (h b (by omega)).1
  have qJ : ∀ b, b < 1046 → g'.2.1 b = g.2.1 b := fun b hb => (h b (by omega)).2.1
  have qR : g'.2.2 1000 = g.2.2 1000 := (h 1000 (by omega)).2.2
  exact ⟨cdr_cg (fun b hb => q b (by omega)) (fun b hb => qJ b (by omega)) (by rw [qR]) h1, by rw [(h 1001 (by omega)).2.2]; exact h2, cbk_cg (q _ (by omega)) (qJ _ (by omega)) (q _ (by omega)) (q _ (by omega)) h3, ckp_cg (by rw [q 1000 (by omega)]) (q _ (by omega)) (qJ _ (by omega)) (q _ (by omega)) (q _ (by omega)) (qJ _ (by omega)) h4, ctp_cg (by rw [q 1001 (by omega)]) (q _ (by omega)) h5, by rw [q 1000 (by omega)]; exact h6⟩
theorem RC_qf {g g' : hG} {D : Nat} {s : sS} (h : qf D g g') (hm : RC g D s) : RC g' D s := by
  obtain ⟨h1, h2, h3, h4, h5, h6⟩ := hm
  have hl := hD_lt h1.1.1
  have q : ∀ b, (1027 ≤ b ∧ b < 1038) ∨ b < 1003 → g'.1 b = g.1 b := fun b hb => h.1 b (by omega) (by omega) (by omega) (by omega)
  have qJ : ∀ b, b < 1038 → g'.2.1 b = g.2.1 b := fun b hb => h.2.2.1 b (by omega)
  exact ⟨cdr_qf h h1, by rw [h.2.2.2]; exact h2, cbk_cg (q _ (by omega)) (qJ _ (by omega)) (q _ (by omega)) (q _ (by omega)) h3, ckp_cg (by rw [q 1000 (by omega)]) (q _ (by omega)) (qJ _ (by omega)) (q _ (by omega)) (q _ (by omega)) (qJ _ (by omega)) h4, ctp_cg (by rw [q 1001 (by omega)]) (q _ (by omega)) h5, by rw [q 1000 (by omega)]; exact h6⟩
theorem mkp_cg {g g' : hG} {x : sX} {o : Option (sP × sB)} (h0 : g'.1 1046 52 = g.1 1046 52) (h1 : g'.1 1046 53 = g.1 1046 53) (h2 : g'.1 1046 54 = g.1 1046 54) (h3 : ∀ b, 1081 ≤ b → b ≤ 1087 → g'.1 b = g.1 b) (h : mkp g x o) : mkp g' x o := by
  unfold mkp at h ⊢
  split
  · rw [h0]; exact h
  · rw [h0, h1, h2, h3 1081 (by omega) (by omega), h3 1082 (by omega) (by omega), h3 1083 (by omega) (by omega), h3 1084 (by omega) (by omega), h3 1085 (by omega) (by omega), h3 1086 (by omega) (by omega), h3 1087 (by omega) (by omega)]
    exact h
/-- all but the drawer stays -/
theorem RM_rest {L F : List Nat} {g g' : hG} {s : sS} (h : fr L F g g') (hL : ∀ b, b ∈ [1058, 1059, 1064, 1073, 1074, 1075, 1076, 1081, 1082, 1083, 1084, 1085, 1086, 1087] → ¬ b ∈ L) (hF : ∀ b, b ∈ [15, 24, 32, 33, 52, 53, 54] → ¬ b ∈ F) (hd : mdr g' s.1) (hm : RM g s) : RM g' s := by
  obtain ⟨h1, h2, h3, h4, h5⟩ := hm
  have q : ∀ b, b ∈ [1058, 1059, 1064, 1073, 1074, 1075, 1076, 1081, 1082, 1083, 1084, 1085, 1086, 1087] → g'.1 b = g.1 b := fun b hb => h.1 b (hL b hb) (by
    intro z
    subst z
    exact absurd hb (by decide))
  have r : ∀ b, b ∈ [15, 24, 32, 33, 52, 53, 54] → g'.1 1046 b = g.1 1046 b := fun b hb => h.2.1 b (hF b hb)
  refine ⟨hd, ?_, mkp_cg (r 52 (by decide)) (r 53 (by decide)) (r 54 (by decide)) (fun b hb hb' => q b ?_) h3, ?_, by rw [r 24 (by decide)]; exact h5⟩
  · rw [r 32 (by decide), r 33 (by decide), q 1064 (by decide), q 1073 (by decide), q 1074 (by decide), q 1075 (by decide), q 1076 (by decide), q 1058 (by decide)]
    exact h2
  · simp only [List.mem_cons, List.not_mem_nil, or_false]
    omega
  · unfold mtp
    rw [r 15 (by decide), q 1059 (by decide)]
    exact h4
theorem RM_q {g g' : hG} {s : sS} (h : fr qL qF g g') (hd : mdr g' s.1) (hm : RM g s) : RM g' s := RM_rest h (by decide) (by decide) hd hm
theorem RM_n {g : hG} {s : sS} (hm : RM g s) : ntm g s.2.1.2.1 ∧ wfn s.1.1 s.2.1.2.1 := hm.2.1.2.1
theorem RC_n {g : hG} {D : Nat} {s : sS} (hm : RC g D s) : cnt g 1027 s.2.1.2.1 ∧ wfn s.1.1 s.2.1.2.1 := hm.2.2.1.2.1
theorem cac_st {f : Nat → Int64} {n : Int32} {x x' : sX} {as : List sP} (h : stt x x') (hc : cac f n x as) : cac f n x' as := ⟨hc.1, hc.2.1, fun i P hi => by
  obtain ⟨a, b, c⟩ := hc.2.2 i P hi
  exact ⟨pgok_st h a, fun z hz => b z (by rw [← h.1]; exact hz), c⟩⟩
theorem cbk_st {g : hG} {B : Nat} {x x' : sX} {b : sB} (h : stt x x') (hc : cbk g B x b) : cbk g B x' b := ⟨cac_st h hc.1, ⟨hc.2.1.1, by rw [h.1]; exact hc.2.1.2⟩, hc.2.2⟩
theorem ckp_st {g : hG} {x x' : sX} {o : Option (sP × sB)} (h : stt x x') (hc : ckp g x o) : ckp g x' o := by
  unfold ckp at hc ⊢
  split
  · exact hc
  · exact ⟨hc.1, cbk_st h hc.2.1, ⟨pgok_st h hc.2.2.1, fun z hz => hc.2.2.2.1 z (by rw [← h.1]; exact hz), hc.2.2.2.2⟩⟩
theorem mac_st {f : Nat → Int32} {n : Int32} {x x' : sX} {as : List sP} (h : stt x x') (hc : mac f n x as) : mac f n x' as := ⟨hc.1, hc.2.1, fun i P hi => by
  obtain ⟨a, b, c⟩ := hc.2.2 i P hi
  exact ⟨pgok_st h a, b, fun z hz => c z (by rw [← h.1]; exact hz)⟩⟩
theorem mbk_st {na nn : Int32} {f0 f1 f2 f3 f4 f5 : Nat → Int32} {x x' : sX} {b : sB} (h : stt x x') (hc : mbk na nn f0 f1 f2 f3 f4 f5 x b) : mbk na nn f0 f1 f2 f3 f4 f5 x' b := ⟨mac_st h hc.1, ⟨hc.2.1.1, by rw [h.1]; exact hc.2.1.2⟩, hc.2.2⟩
theorem mkp_st {g : hG} {x x' : sX} {o : Option (sP × sB)} (h : stt x x') (hc : mkp g x o) : mkp g x' o := by
  unfold mkp at hc ⊢
  split
  · exact hc
  · exact ⟨hc.1, mbk_st h hc.2.1, ⟨pgok_st h hc.2.2.1, hc.2.2.2.1, fun z hz => hc.2.2.2.2 z (by rw [← h.1]; exact hz)⟩⟩
/-- the state bits of a page -/
theorem nI_or (a b : Nat) : nI a ||| nI b = nI (a ||| b) := by
  apply Int32.toBitVec_inj.mp
  rw [Int32.toBitVec_or]
  show BitVec.ofNat 32 a ||| BitVec.ofNat 32 b = BitVec.ofNat 32 (a ||| b)
  apply BitVec.eq_of_getLsbD_eq
  intro i hi
  simp [hi]
theorem stb {v h : Nat} (hv : v < 65536) (hh : h ≤ 16) : (nI v ||| (nI h <<< ((16 : Int32) &&& 31))) &&& 65535 = nI v ∧ (nI v ||| (nI h <<< ((16 : Int32) &&& 31))) >>> ((16 : Int32) &&& 31) = nI h := by
  have e : nI v ||| (nI h <<< ((16 : Int32) &&& 31)) = nI (65536 * h + v) := by
    rw [pk_shlN _ 16 (by decide) (by omega), nI_or, Nat.or_comm, Nat.mul_comm h]
    congr 1
    exact (Nat.two_pow_add_eq_or_of_lt (i := 16) hv h).symm
  rw [e, pk_andN (by omega) 16 (by decide), pk_shrN (by omega) _ 16 (by decide)]
  constructor <;> congr 1 <;> omega
theorem stb_s {s : sZ} (h : sok s) : (((s.2.2.2.2.1 ||| (nI s.2.2.2.2.2 <<< ((16 : Int32) &&& 31))).toInt64).toInt32) &&& 65535 = s.2.2.2.2.1 ∧ (((s.2.2.2.2.1 ||| (nI s.2.2.2.2.2 <<< ((16 : Int32) &&& 31))).toInt64).toInt32) >>> ((16 : Int32) &&& 31) = nI s.2.2.2.2.2 := by
  obtain ⟨v, hv, e⟩ := sok_C h
  have h1 := h.1.2
  have h2 := h.2.2.2.2.2.2
  rw [Int32.toInt32_toInt64, e]
  exact stb hv (by omega)
