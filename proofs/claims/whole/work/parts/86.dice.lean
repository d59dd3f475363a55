/-! YEARS: draws -/
def sdn (S : Int32) : Int32 := S * 1103515245 + 12345
def sdv (S : Int32) : Nat := ((S >>> ((16 : Int32) &&& 31)) &&& 32767).toNatClampNeg
theorem sdv_e (S : Int32) : (S >>> ((16 : Int32) &&& 31)) &&& 32767 = nI (sdv S) ∧ sdv S < 32768 := by
  obtain ⟨j, hj, e⟩ := pk_andE (S >>> ((16 : Int32) &&& 31)) (m := 32767) 15 (by decide)
  unfold sdv
  rw [e, nI_clamp (by omega)]
  exact ⟨rfl, hj⟩
theorem m32767 : ∀ j, j < 32 → bt 32767 j = decide (j < 15) := by decide +kernel
theorem shr16 (S : Int32) : (((S : Int32).toUInt32 >>> ((16 : Int32).toUInt32 &&& Int32.toUInt32 31)).toInt32) &&& 32767 = (S >>> ((16 : Int32) &&& 31)) &&& 32767 := by
  apply bt_ext
  intro p hp
  rw [bt_and, bt_and, m32767 p hp]
  by_cases h : p < 15
  · congr 1
    unfold bt
    have e := sm_eq 16 (by omega)
    rw [Int32.toBitVec_shiftRight]
    show _ = (BitVec.sshiftRight _ ((nI 16 &&& 31).toBitVec.smod 32).toNat).getLsbD p
    rw [e, BitVec.getLsbD_sshiftRight]
    show (S.toBitVec >>> 16).getLsbD p = _
    rw [BitVec.getLsbD_ushiftRight]
    simp [show 16 + p < 32 by omega, show ¬ 32 ≤ p by omega]
  · rw [decide_eq_false h, Bool.and_false, Bool.and_false]
section
variable {d : Nat} {k : Int32 → hG → hE → Prop} {kv : hG → hE → Prop} {X : Nat → hG → hE → Prop} {g : hG} {e : hE}
theorem c_draw {n : Nat} (h0 : 0 < n) (hn : n ≤ 16) (H : k (nI (sdv (sdn (g.1 1045 0)) % n)) (sI g 1045 0 (sdn (g.1 1045 0))) e) : hci (d + 1) 35 [.ref 1045, .int (nI n)] g e k X := by
  obtain ⟨e1, l1⟩ := sdv_e (sdn (g.1 1045 0))
  refine zh_X1_draw (zbr_f (nI_ge (a := 0) h0 (by omega)) ⟨fun z => by have := (nI_eq (b := 0) (by omega) (by omega)).mp z; omega, ?_⟩)
  rw [show (sI g 1045 0 (((g.1 1045 0) * 1103515245) + 12345)).1 1045 0 = sdn (g.1 1045 0) from by rw [sI_at, upd_at]; rfl, shr16, e1, pk_rem (by omega) h0 (by omega)]
  exact H
theorem cm_draw {n : Nat} (h0 : 0 < n) (hn : n ≤ 16) (H : k (nI (sdv (sdn (g.1 1046 51)) % n)) (sI g 1046 51 (sdn (g.1 1046 51))) e) : hci (d + 1) 326 [.ref 1046, .int (nI n)] g e k X := by
  obtain ⟨e1, l1⟩ := sdv_e (sdn (g.1 1046 51))
  refine zh_X8_drawOf ⟨fun z => by have := (nI_eq (b := 0) (by omega) (by omega)).mp z; omega, ?_⟩
  rw [show (sI g 1046 51 (((g.1 1046 51) * 1103515245) + 12345)).1 1046 51 = sdn (g.1 1046 51) from by rw [sI_at, upd_at]; rfl, e1, pk_rem (by omega) h0 (by omega)]
  exact H
end
