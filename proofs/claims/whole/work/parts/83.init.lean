/-! the beginning, and every call -/
theorem xz_init : ∃ st9, F_Pla_measure xs_0 = some st9 ∧ xz_RR st9 xs_0 := by
  have hc : cL xs_0 0 (fun _ => 0) (fun _ => 0) (fun _ => 0) := ⟨rfl, by omega, fun s hs => absurd hs (Nat.not_lt_zero s), fun s hs => absurd hs (Nat.not_lt_zero s)⟩
  obtain ⟨t, h1, h2, h3⟩ := e_measure hc
  have hz : ∀ k j, k < 22 ∨ 27 < k → t.1 k j = 0 := fun k j hk => by rw [h2 k hk]; rfl
  refine ⟨t, h1, ⟨0, fun _ => 0, fun _ => 0, fun _ => 0, fun _ => 0, 0, fun _ => 0, fun _ => 0, ?_, ⟨fun s hs => absurd hs (Nat.not_lt_zero s), fun i j hi => absurd hi (Nat.not_lt_zero i)⟩, h3, fun s hs => absurd hs (Nat.not_lt_zero s), ⟨hz 1 7 (by omega), by omega, fun p hp => absurd hp (Nat.not_lt_zero p)⟩, rfl, ⟨by omega, fun s hs => absurd hs (Nat.not_lt_zero s), fun s hs => absurd hs (Nat.not_lt_zero s)⟩, ⟨rfl, by omega, fun p hp => absurd hp (Nat.not_lt_zero p)⟩⟩, ⟨0, by omega, hz 28 1 (by omega), rfl, fun i hi => absurd hi (Nat.not_lt_zero i)⟩, ⟨0, by omega, hz 0 7 (by omega), rfl, fun i hi => absurd hi (Nat.not_lt_zero i)⟩, fun i _ => hz 32 i (by omega), Or.inl ⟨hz 0 3 (by omega), rfl⟩⟩
  exact ⟨hz 1 4 (by omega), by omega, fun s hs => absurd hs (Nat.not_lt_zero s), fun s hs => absurd hs (Nat.not_lt_zero s)⟩
theorem xz_all : xz_steps xz_RR := ⟨s_letter, s_town, s_street, s_plot, s_crossing, s_quarters, s_open, s_with, s_corners, s_sides, s_isOpen, s_whole, s_points, s_lamps, s_where, s_together, s_steps, s_next, s_through, s_spare, s_most, s_fear, s_taken, s_row, s_judge, s_seeds, s_image, s_on, s_count⟩
