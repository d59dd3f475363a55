section
variable {d : Nat} {k : Int32 → hG → hE → Prop} {X : Nat → hG → hE → Prop} {g : hG} {e : hE} {zs : Nat → sZ}
theorem cm_allGrips {nz : Nat} (hm : ms g nz zs) (H : k (xsum (fun i => ssum (zs i) (zs i).1) nz) g e) : hci (d + 2) 256 [.ref 1046] g e k X := by
  have h4 := hm.1.2
  refine zh_X8_allGrips ?_
  refine hdown (W := fun i => hwi (d + 1) zm_X8_allGrips k X 4 [(0, .ref 1046), (1, .int (xsum (fun i => ssum (zs i) (zs i).1) i)), (2, .int (nI i))] g e) (n := nz) ?_ ?_ 0 (Nat.zero_le _)
  · exact zh_X8_allGrips_4 (zbr_t (by rw [hm.1.1]; exact nI_le (Nat.le_refl _) (by omega)) H)
  · intro i hi W
    rw [nI_succ] at W
    exact zh_X8_allGrips_4 (zbr_f (by rw [hm.1.1]; exact nI_ge hi (by omega)) (cm_gripsOf (by omega) (hm.2 i hi).1 (hm.2 i hi).2.1.2 W))
end
