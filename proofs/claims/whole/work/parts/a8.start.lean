/-! THE BEGINNING: both are empty; and the law's walk from its first to its last -/
def st0 : sS := ((0, fun _ => (1, 0, fun _ => 0, fun _ => 0, 0, 0), [], [], [], 0), ([], [], fun _ => 0), none, (0, fun _ => 0), -1)
theorem RC_0 {xs : Nat → Int32} : RC (g0 xs) 1015 st0 := by
  refine ⟨⟨⟨.inr rfl, rfl⟩, ⟨rfl, Nat.zero_le _⟩, fun i hi => absurd hi (Nat.not_lt_zero i), ⟨rfl, Nat.zero_le _, (fun j w h => by cases h), (fun w h => by cases h)⟩, ⟨⟨rfl, rfl, fun h => absurd rfl h⟩, ⟨rfl, rfl, fun h => absurd rfl h⟩⟩, rfl, Nat.zero_le _⟩, rfl, ⟨⟨rfl, Nat.zero_le _, (fun i P h => by cases h)⟩, ⟨?_, ?_⟩, fun k hk => ?_⟩, rfl, ⟨rfl, Nat.zero_le _, fun i hi => absurd hi (Nat.not_lt_zero i)⟩, rfl⟩
  · exact ⟨rfl, (fun i w h => by cases h)⟩
  · exact ⟨Nat.zero_le _, (fun w h => by cases h)⟩
  · show (if 1030 = 997 then xs k else j0 1030 k) = 0
    rw [if_neg (by decide), j0_row rfl]
theorem RM_0 {xs : Nat → Int32} : RM (g0 xs) st0 := by
  refine ⟨⟨⟨⟨rfl, Nat.zero_le _⟩, fun z hz => absurd hz (Nat.not_lt_zero z)⟩, ⟨⟨rfl, rfl⟩, ⟨?_, ?_⟩, ⟨fun h => absurd rfl h, fun h => absurd rfl h⟩, Nat.zero_le _, Nat.zero_le _⟩, ⟨rfl, Nat.zero_le _, (fun j w h => by cases h), (fun w h => by cases h)⟩, rfl, Nat.zero_le _⟩, ⟨⟨rfl, Nat.zero_le _, (fun i P h => by cases h)⟩, ⟨⟨rfl, (fun i w h => by cases h)⟩, Nat.zero_le _, (fun w h => by cases h)⟩, fun k hk => ?_⟩, rfl, ⟨rfl, Nat.zero_le _, fun i hi => absurd hi (Nat.not_lt_zero i)⟩, rfl⟩
  · exact fun i w h => by cases h
  · exact fun i w h => by cases h
  · show (if 1058 = 997 then xs k else j0 1058 k) = 0
    rw [if_neg (by decide), j0_row rfl]
theorem rmq_0 {N S s m : Nat} (h1 : 200000 ≤ N) (h2 : 1000000 ≤ S) (hs : s ≤ 60000) (hm : m ≤ 100000) : rmq N S 89 s m := by
  unfold rmq
  omega
/-- the law's walk: it answers 1 -/
theorem law_walk {n : Nat} {xs : Nat → Int32} (hn : n ≤ 600000) : zW (zE 70) zm_L_law (hqi (fun v _ _ => v = 1) (fun _ _ _ => False)) (0, [(0, .ref 997)], [], (1, 0, 0, hsc n xs)) := by
  refine law_pre (fun s hs => ?_)
  have := law_loop (d := 0) (n := n) (k := fun v _ _ => v = 1) (X := fun _ _ _ => False) (by omega) (fun _ _ => rfl) (n / 6) 0 (g0 xs) (90, 89, s, n) 1015 st0 RC_0 RM_0 rfl (Nat.zero_le _) (by omega) (rmq_0 (by decide) (by decide) hs (by omega))
  exact this
