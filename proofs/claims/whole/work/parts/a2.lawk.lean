/-! THE LAW, step by step: the class answers, the model answers, and they are held against each other -/
/-- what the law's wrapper gives back -/
def wrl (c : Nat → Int32) (r : rs) (v : Int32) (g : hG) : Prop := match r with
  | .inl u => v = 0 ∧ g.2.1 1088 0 = u.toInt64
  | .inr x => v = c x
def cu1 (r : rs) : Prop := ∀ c, r = .inr c → c = 1
def cu0 (r : rs) : Prop := ∀ c, r = .inr c → c = 0
def cu2 (r : rs) : Prop := ∀ c, r = .inr c → c = 1 ∨ c = 0
def cub (r : rs) : Prop := ∀ u, r = .inl u → u = 0 ∨ u = 1
def cun (r : rs) : Prop := ∃ u, r = .inl u
/-- the class and the wrapper's own row -/
def cfw (g g' : hG) : Prop := (∀ b, ¬ (1000 ≤ b ∧ b < 1046) → g'.1 b = g.1 b) ∧ ∀ b, ¬ (1000 ≤ b ∧ b < 1046) → ¬ b = 1088 → g'.2.1 b = g.2.1 b ∧ g'.2.2 b = g.2.2 b
theorem cfw_cfr {g g' : hG} (h : cfr g g') : cfw g g' := ⟨fun b hb => (h b hb).1, fun b hb _ => (h b hb).2⟩
theorem cfw_sJ {g g' : hG} {v : Int64} (h : cfr g g') : cfw g (sJ g' 1088 0 v) := ⟨fun b hb => (h b hb).1, fun b hb hn => ⟨by
  show va_up g'.2.1 1088 _ b = _
  rw [va_up_off _ _ hn]; exact (h b hb).2.1, (h b hb).2.2⟩⟩
theorem RC_lo {g g' : hG} {D : Nat} {s : sS} (h : ∀ b, b < 1046 → g'.1 b = g.1 b ∧ g'.2.1 b = g.2.1 b ∧ g'.2.2 b = g.2.2 b) (hm : RC g D s) : RC g' D s := by
  obtain ⟨h1, h2, h3, h4, h5, h6⟩ := hm
  have hl := hD_lt h1.1.1
  have q : ∀ b, b < 1046 → g'.1 b = g.1 b := fun b hb => (h b hb).1
  have qJ : ∀ b, b < 1046 → g'.2.1 b = g.2.1 b := fun b hb => (h b hb).2.1
  have qR : g'.2.2 1000 = g.2.2 1000 := (h 1000 (by omega)).2.2
  exact ⟨cdr_cg (fun b hb => q b (by omega)) (fun b hb => qJ b (by omega)) (by rw [qR]) h1, by rw [(h 1001 (by omega)).2.2]; exact h2, cbk_cg (q _ (by omega)) (qJ _ (by omega)) (q _ (by omega)) (q _ (by omega)) h3, ckp_cg (by rw [q 1000 (by omega)]) (q _ (by omega)) (qJ _ (by omega)) (q _ (by omega)) (q _ (by omega)) (qJ _ (by omega)) h4, ctp_cg (by rw [q 1001 (by omega)]) (q _ (by omega)) h5, by rw [q 1000 (by omega)]; exact h6⟩
theorem RC_sJ {g : hG} {D : Nat} {s : sS} {v : Int64} (h : RC g D s) : RC (sJ g 1088 0 v) D s := RC_lo (g := g) (g' := sJ g 1088 0 v) (fun b hb => ⟨rfl, va_up_off _ _ (by omega), rfl⟩) h
theorem RM_cfw {g g' : hG} {s : sS} (h : cfw g g') (hm : RM g s) : RM g' s := by
  have : RM (g'.1, g.2) s := RM_cfr (fun b hb => ⟨h.1 b hb, rfl, rfl⟩) hm
  exact this
def eth (e e' : hE) : Prop := e' = e ∨ e' = hth e
theorem eth_n {e e' : hE} (h : eth e e') : e'.2.2.2 = e.2.2.2 := by rcases h with rfl | rfl <;> rfl
section
variable {d : Nat} {k : Int32 → hG → hE → Prop} {kv : hG → hE → Prop} {X : Nat → hG → hE → Prop} {g g1 g2 g3 : hG} {e e2 : hE} {D : Nat} {s : sS} {r : rs} {u v l4 : Int32} {c : Nat → Int32}
theorem sJ_at88 {v : Int64} : (sJ g 1088 0 v).2.1 1088 0 = v := by
  show va_up g.2.1 1088 (vp_updL (g.2.1 1088) 0 v) 1088 0 = v
  rw [va_up_at, updL_at]
theorem w1 (hu : cu1 r) (f : cfr g g1) (hc : RC g1 D s) (H : ∀ v g2 e2, cfw g g2 → RC g2 D s → eth e e2 → wrl c12 r v g2 → k v g2 e2) : oc r (fun x3 g1 e2 => k 0 (sJ g1 1088 0 ((x3 : Int32).toInt64)) e2) (fun y g9 e9 => zbr (y = 1) (k 1 g9 e9) (X y g9 e9)) g1 e := by
  cases r with
  | inl u => exact H _ _ _ (cfw_sJ f) (RC_sJ hc) (.inl rfl) ⟨rfl, sJ_at88⟩
  | inr x =>
    obtain rfl := hu x rfl
    exact zbr_t rfl (H _ _ _ (cfw_cfr f) hc (.inr rfl) rfl)
theorem w0 (hu : cu0 r) (f : cfr g g1) (hc : RC g1 D s) (H : ∀ v g2 e2, cfw g g2 → RC g2 D s → eth e e2 → wrl c01 r v g2 → k v g2 e2) : oc r (fun x3 g1 e2 => k 0 (sJ g1 1088 0 ((x3 : Int32).toInt64)) e2) (fun y g9 e9 => zbr (y = 0) (k 1 g9 e9) (X y g9 e9)) g1 e := by
  cases r with
  | inl u => exact H _ _ _ (cfw_sJ f) (RC_sJ hc) (.inl rfl) ⟨rfl, sJ_at88⟩
  | inr x =>
    obtain rfl := hu x rfl
    exact zbr_t rfl (H _ _ _ (cfw_cfr f) hc (.inr rfl) rfl)
theorem w2 (hu : cu2 r) (f : cfr g g1) (hc : RC g1 D s) (H : ∀ v g2 e2, cfw g g2 → RC g2 D s → eth e e2 → wrl c12 r v g2 → k v g2 e2) : oc r (fun x3 g1 e2 => k 0 (sJ g1 1088 0 ((x3 : Int32).toInt64)) e2) (fun y g9 e9 => zbr (y = 1) (k 1 g9 e9) (zbr (y = 0) (k 2 g9 e9) (X y g9 e9))) g1 e := by
  cases r with
  | inl u => exact H _ _ _ (cfw_sJ f) (RC_sJ hc) (.inl rfl) ⟨rfl, sJ_at88⟩
  | inr x =>
    rcases hu x rfl with rfl | rfl
    · exact zbr_t rfl (H _ _ _ (cfw_cfr f) hc (.inr rfl) rfl)
    · exact zbr_f (by omega) (zbr_t rfl (H _ _ _ (cfw_cfr f) hc (.inr rfl) rfl))
theorem wb (hu : cu1 r) (hb : cub r) (f : cfr g g1) (hc : RC g1 D s) (H : ∀ v g2 e2, cfw g g2 → RC g2 D s → eth e e2 → wrl c12 r v g2 → k v g2 e2) : oc r (fun x3 g1 e2 => zbr (x3 = 0) (k 0 (sJ g1 1088 0 0) e2) (k 0 (sJ g1 1088 0 1) e2)) (fun y g9 e9 => zbr (y = 1) (k 1 g9 e9) (X y g9 e9)) g1 e := by
  cases r with
  | inl u =>
    rcases hb u rfl with rfl | rfl
    · exact zbr_t rfl (H _ _ _ (cfw_sJ f) (RC_sJ hc) (.inl rfl) ⟨rfl, sJ_at88⟩)
    · exact zbr_f (by decide) (H _ _ _ (cfw_sJ f) (RC_sJ hc) (.inl rfl) ⟨rfl, sJ_at88⟩)
  | inr x =>
    obtain rfl := hu x rfl
    exact zbr_t rfl (H _ _ _ (cfw_cfr f) hc (.inr rfl) rfl)
def cnz (c : Nat → Int32) : Prop := ∀ x, ¬ c x = 0
theorem cnz12 : cnz c12 := fun x => by
  match x with
  | 0 => exact (by decide : ¬ (2 : Int32) = 0)
  | _ + 1 => exact (by decide : ¬ (1 : Int32) = 0)
theorem cnz01 : cnz c01 := fun _ => (by decide : ¬ (1 : Int32) = 0)
/-- held against each other -/
theorem m1 {A B C : hG → hE → Prop} (hz : cnz c) (W : wrl c r v g2) (f : mfr g2 g3) (o : om c r u g3) (H : A g3 e2) : hci (d + 1) 214 [.ref 1046] g3 e2 (fun x g9 e10 => zbr (x = v) (zbr (v = 0) (zbr ((lg_cmp (g9.2.1 1088 0) ((u : Int32).toInt64)) = 0) (A g9 e10) (B g9 e10)) (A g9 e10)) (C g9 e10)) X := by
  refine zh_X8_thrown ?_
  cases r with
  | inl w =>
    obtain ⟨rfl, o4⟩ := o
    obtain ⟨rfl, w4⟩ := W
    refine zbr_t o4 (zbr_t rfl (zbr_t ?_ H))
    rw [(f 1088 (by omega)).2.1, w4]
    exact (lgx _ _).mpr rfl
  | inr x =>
    have W' : v = c x := W
    have o' : g3.1 1046 4 = c x := o
    refine zbr_t (o'.trans W'.symm) (zbr_f ?_ H)
    rw [W']; exact hz x
theorem mb {A B C E : hG → hE → Prop} (hz : cnz c) (hb : cub r) (W : wrl c r v g2) (f : mfr g2 g3) (o : om c r u g3) (H : A g3 e2) : hci (d + 1) 214 [.ref 1046] g3 e2 (fun x g9 e10 => zbr (x = v) (zbr (v = 0) (zbr (u = 0) (zbr ((lg_cmp (g9.2.1 1088 0) 0) = 0) (A g9 e10) (B g9 e10)) (zbr ((lg_cmp (g9.2.1 1088 0) 1) = 0) (A g9 e10) (E g9 e10))) (A g9 e10)) (C g9 e10)) X := by
  refine zh_X8_thrown ?_
  cases r with
  | inl w =>
    obtain ⟨rfl, o4⟩ := o
    obtain ⟨rfl, w4⟩ := W
    refine zbr_t o4 (zbr_t rfl ?_)
    have e8 : g3.2.1 1088 0 = u.toInt64 := by rw [(f 1088 (by omega)).2.1, w4]
    rcases hb u rfl with rfl | rfl
    · refine zbr_t rfl (zbr_t ?_ H)
      rw [e8]
      exact (lgx _ _).mpr rfl
    · refine zbr_f (by decide) (zbr_t ?_ H)
      rw [e8]
      exact (lgx _ _).mpr rfl
  | inr x =>
    have W' : v = c x := W
    have o' : g3.1 1046 4 = c x := o
    refine zbr_t (o'.trans W'.symm) (zbr_f ?_ H)
    rw [W']; exact hz x
end
abbrev lws (l4 : Int32) : List (Nat × Value) := [(0, .ref 997), (1, .ref 1000), (2, .ref 1046), (3, .ref 1088), (4, .int l4)]
def lin (l4 : Int32) (n : Nat) : Prop := hin (l4 + 1) n ∧ hin (l4 + 2) n ∧ hin (l4 + 3) n ∧ hin (l4 + 4) n ∧ hin (l4 + 5) n
def lnx (d : Nat) (k : Int32 → hG → hE → Prop) (X : Nat → hG → hE → Prop) (g : hG) (e : hE) (l4 : Int32) : Prop := ∀ g' e' D s, RC g' D s → RM g' s → g'.1 997 = g.1 997 → eth e e' → hwi d zm_L_law k X 2733 (lws l4) g' e'
