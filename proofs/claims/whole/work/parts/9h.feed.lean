/-! FEED -/
def s_tape (s : sS) (t : Nat × (Nat → Nat)) : sS := (s.1, s.2.1, s.2.2.1, t, s.2.2.2.2)
def byt (w : Int32) (j : Nat) : Nat := ((w >>> (nI (24 - 8 * j) &&& 31)) &&& 255).toNatClampNeg
def tpush (t : Nat × (Nat → Nat)) (b : Nat) : Nat × (Nat → Nat) := (t.1 + 1, va_up t.2 t.1 b)
def tpn (t : Nat × (Nat → Nat)) (w : Nat → Int32) : Nat → Nat × (Nat → Nat)
  | 0 => t
  | i + 1 => tpush (tpn t w i) (byt (w (i / 4)) (i % 4))
def wsel (a b c d f : Int32) : Nat → Int32
  | 0 => a
  | 1 => b
  | 2 => c
  | 3 => d
  | _ => f
def r_feed (s : sS) (a b c d f : Int32) : rs × sS := if s.2.2.2.1.1 + 20 ≤ 700 then (.inl (nI (s.2.2.2.1.1 + 20)), s_tape s (tpn s.2.2.2.1 (wsel a b c d f) 20)) else (.inl (-1), s)
theorem tpn_1 (t : Nat × (Nat → Nat)) (w : Nat → Int32) : ∀ i, (tpn t w i).1 = t.1 + i
  | 0 => rfl
  | i + 1 => by
    show (tpn t w i).1 + 1 = _
    rw [tpn_1 t w i]
    omega
theorem byt_l (w : Int32) (j : Nat) : byt w j < 256 ∧ (w >>> (nI (24 - 8 * j) &&& 31)) &&& 255 = nI (byt w j) := by
  obtain ⟨n, hn, e⟩ := pk_andE (w >>> (nI (24 - 8 * j) &&& 31)) (m := 255) 8 (by decide)
  unfold byt
  rw [e, nI_clamp (by have : n < 256 := hn; omega)]
  exact ⟨hn, rfl⟩
theorem sby_all : ∀ j, j < 256 → (nI j).toInt8.toInt32 = sby8 j := by decide +kernel
theorem sby_b (v : Int32) {n : Nat} (hn : n < 256) (e : v &&& 255 = nI n) : vp_nar .byte v.toInt8.toInt32 = sby8 n := by
  rw [pk_vb, ← sby_all n hn, ← e]
  congr 1
  apply Int8.toBitVec_inj.mp
  rw [Int32.toBitVec_toInt8, Int32.toBitVec_toInt8, Int32.toBitVec_and]
  apply BitVec.eq_of_getLsbD_eq
  intro i hi
  rw [BitVec.getLsbD_signExtend, BitVec.getLsbD_signExtend, if_pos (show i < 32 by omega), if_pos (show i < 32 by omega), BitVec.getLsbD_and]
  have : ∀ i, i < 8 → (255 : Int32).toBitVec.getLsbD i = true := by decide
  rw [this i hi, Bool.and_true]
section
variable {d : Nat} {k : Int32 → hG → hE → Prop} {kv : hG → hE → Prop} {X : Nat → hG → hE → Prop} {g : hG} {e : hE} {D : Nat} {x : sX} {s : sS}
theorem c_put1 (hc : RC g D s) (hl : s.2.2.2.1.1 < 700) {w : Int32} {j : Nat} (hj : j < 4) (H : ∀ g', cfr g g' → RC g' D (s_tape s (tpush s.2.2.2.1 (byt w j))) → hwv d zm_X3_putBytes kv X 3 [(0, .ref 1001), (1, .int w), (2, .int (nI (24 - 8 * j) + (-8)))] g' e) : hwv d zm_X3_putBytes kv X 3 [(0, .ref 1001), (1, .int w), (2, .int (nI (24 - 8 * j)))] g e := by
  obtain ⟨h1, h2, h3, h4, ⟨t1, t2, t3⟩, h6⟩ := hc
  have hD := hD_lt h1.1.1
  refine zh_X3_putBytes_3 (zbr_f (nI_pos (by omega)) ?_)
  rw [t1]
  refine zbr_f (nI_pos (by omega)) (zbr_f (nI_ge hl (by omega)) ⟨nI_in hl (by omega), ?_⟩)
  rintro g2 rfl
  rw [nI_clamp (by omega), sI_off g (show ¬ 1001 = 1002 by decide), t1, nI_1]
  obtain ⟨b1, b2⟩ := byt_l w j
  rw [sby_b _ b1 b2]
  have q : ∀ b, ¬ b = 1001 → ¬ b = 1002 → (sI (sI g 1002 s.2.2.2.1.1 (sby8 (byt w j))) 1001 1 (nI (s.2.2.2.1.1 + 1))).1 b = g.1 b := fun b q1 q2 => by rw [sI_off _ q1, sI_off _ q2]
  refine H _ (fun b hb => ⟨q b (by omega) (by omega), rfl, rfl⟩) ⟨cdr_cg (g := g) (fun b hb => q b (by omega) (by omega)) (fun b hb => rfl) rfl h1, h2, cbk_cg (q _ (by omega) (by omega)) rfl (q _ (by omega) (by omega)) (q _ (by omega) (by omega)) h3, ckp_cg (by rw [q 1000 (by omega) (by omega)]) (q _ (by omega) (by omega)) rfl (q _ (by omega) (by omega)) (q _ (by omega) (by omega)) rfl h4, ⟨?_, ?_, fun i hi => ?_⟩, by rw [q 1000 (by omega) (by omega)]; exact h6⟩
  · rw [sI_at, upd_at]; rfl
  · show s.2.2.2.1.1 + 1 ≤ 700; omega
  · rw [sI_off _ (by omega), sI_at]
    have hi : i < s.2.2.2.1.1 + 1 := hi
    show upd _ _ _ i = sby8 (va_up _ _ _ i) ∧ va_up _ _ _ i < 256
    by_cases c : i = s.2.2.2.1.1
    · subst c
      rw [upd_at, va_up_at]
      exact ⟨rfl, b1⟩
    · rw [upd_off _ _ c, va_up_off _ _ c]
      exact t3 i (by omega)
theorem c_putBytes {t : Nat × (Nat → Nat)} {w : Nat → Int32} {q : Nat} (hc : RC g D (s_tape s (tpn t w (4 * q)))) (hl : t.1 + 4 * q + 4 ≤ 700) (H : ∀ g', cfr g g' → RC g' D (s_tape s (tpn t w (4 * (q + 1)))) → kv g' e) : hcv (d + 1) 145 [.ref 1001, .int (w q)] g e kv X := by
  have l := tpn_1 t w
  have st : ∀ j, j < 4 → s_tape (s_tape s (tpn t w (4 * q + j))) (tpush (s_tape s (tpn t w (4 * q + j))).2.2.2.1 (byt (w q) j)) = s_tape s (tpn t w (4 * q + (j + 1))) := by
    intro j hj
    show s_tape s (tpush (tpn t w (4 * q + j)) (byt (w q) j)) = s_tape s (tpush (tpn t w (4 * q + j)) (byt (w ((4 * q + j) / 4)) ((4 * q + j) % 4)))
    rw [show (4 * q + j) / 4 = q by omega, show (4 * q + j) % 4 = j by omega]
  have len : ∀ j, j < 4 → (s_tape s (tpn t w (4 * q + j))).2.2.2.1.1 < 700 := by
    intro j hj
    show (tpn t w (4 * q + j)).1 < 700
    rw [l]; omega
  have hc' : RC g D (s_tape s (tpn t w (4 * q + 0))) := hc
  refine zh_X3_putBytes ?_
  refine c_put1 (j := 0) hc' (len 0 (by omega)) (by omega) (fun g1 f1 r1 => ?_)
  rw [st 0 (by omega)] at r1
  refine c_put1 (j := 1) r1 (len 1 (by omega)) (by omega) (fun g2 f2 r2 => ?_)
  rw [st 1 (by omega)] at r2
  refine c_put1 (j := 2) r2 (len 2 (by omega)) (by omega) (fun g3 f3 r3 => ?_)
  rw [st 2 (by omega)] at r3
  refine c_put1 (j := 3) r3 (len 3 (by omega)) (by omega) (fun g4 f4 r4 => ?_)
  rw [st 3 (by omega)] at r4
  exact zh_X3_putBytes_3 (zbr_t (by decide) (H g4 (((f1.trans f2).trans f3).trans f4) r4))
theorem cs_feed (hc : RC g D s) {a b c d' f : Int32} (H : ∀ g', cfr g g' → RC g' D (r_feed s a b c d' f).2 → oc (r_feed s a b c d' f).1 k X g' e) : hci (d + 2) 144 [.ref 1000, .int a, .int b, .int c, .int d', .int f] g e k X := by
  obtain ⟨t1, t2, t3⟩ := hc.2.2.2.2.1
  refine zh_X7_feed (zh_X3_tapeLength ?_)
  rw [t1, show (20 : Int32) = nI 20 from rfl, nI_add, show (700 : Int32) = nI 700 from rfl]
  unfold r_feed at H
  by_cases q : s.2.2.2.1.1 + 20 ≤ 700
  · rw [if_pos q] at H
    refine zbr_t (nI_le q (by omega)) ?_
    obtain ⟨t, ht⟩ : ∃ t, t = s.2.2.2.1 := ⟨_, rfl⟩
    rw [← ht] at H q
    have h0 : RC g D (s_tape s (tpn t (wsel a b c d' f) (4 * 0))) := by rw [ht]; exact hc
    refine c_putBytes (w := wsel a b c d' f) (q := 0) h0 (by omega) (fun g1 f1 r1 => c_putBytes (w := wsel a b c d' f) (q := 1) r1 (by omega) (fun g2 f2 r2 => c_putBytes (w := wsel a b c d' f) (q := 2) r2 (by omega) (fun g3 f3 r3 => c_putBytes (w := wsel a b c d' f) (q := 3) r3 (by omega) (fun g4 f4 r4 => c_putBytes (w := wsel a b c d' f) (q := 4) r4 (by omega) (fun g5 f5 r5 => zh_X3_tapeLength ?_)))))
    rw [r5.2.2.2.2.1.1, show (s_tape s (tpn t (wsel a b c d' f) (4 * (4 + 1)))).2.2.2.1.1 = t.1 + 20 from tpn_1 _ _ _]
    exact H g5 ((((f1.trans f2).trans f3).trans f4).trans f5) r5
  · rw [if_neg q] at H
    exact zbr_f (fun z => q ((nI_leI (by omega) (by omega)).mp z)) (H g cfr.refl hc)
end
