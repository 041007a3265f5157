/-! the class's sets are the regions, and the ends -/
theorem qx_add : ∀ k, k < 6 → ∀ x, x < 64 → x.testBit k = false → x + 2 ^ k = x ^^^ 2 ^ k := by decide +kernel
theorem qx_sub : ∀ k, k < 6 → ∀ x, x < 64 → x.testBit k = true → 2 ^ k ≤ x ∧ x - 2 ^ k = x ^^^ 2 ^ k := by decide +kernel
theorem gq_two_iff {c : Nat → Bool} {n s m : Nat} (hn : n ≤ 6) (hs : s < n) (hc : ∀ x, c x = true → x < 2 ^ n ∧ x.testBit s = false) : gq_two c s m = true ↔ m < 2 ^ n ∧ c (gz_off m s) = true := by
  have h64 := p2_64 hn
  have h2s : 2 ^ s < 2 ^ n := Nat.pow_lt_pow_right (by decide) hs
  unfold gq_two
  rw [Bool.or_eq_true, Bool.and_eq_true, decide_eq_true_eq]
  constructor
  · rintro (h | ⟨h1, h2⟩)
    · obtain ⟨a1, a2⟩ := hc m h
      refine ⟨a1, ?_⟩
      unfold gz_off
      rw [a2]; exact h
    · obtain ⟨a1, a2⟩ := hc _ h2
      have e := qx_add s (by omega) (m - 2 ^ s) (by omega) a2
      have e2 : m = (m - 2 ^ s) ^^^ 2 ^ s := by omega
      have hb : m.testBit s = true := by
        rw [e2, Nat.testBit_xor, Nat.testBit_two_pow, a2]; simp
      refine ⟨by rw [e2]; exact Nat.xor_lt_two_pow a1 h2s, ?_⟩
      unfold gz_off
      have e3 : m ^^^ 2 ^ s = m - 2 ^ s := by
        have : m < 2 ^ n := by rw [e2]; exact Nat.xor_lt_two_pow a1 h2s
        exact (qx_sub s (by omega) m (by omega) hb).2.symm
      rw [if_pos hb, e3]; exact h2
  · rintro ⟨hm, h⟩
    unfold gz_off at h
    by_cases hb : m.testBit s = true
    · rw [if_pos hb] at h
      obtain ⟨g1, g2⟩ := qx_sub s (by omega) m (by omega) hb
      rw [← g2] at h
      exact Or.inr ⟨g1, h⟩
    · rw [if_neg hb] at h
      exact Or.inl h
theorem gz_cut_self {a b c : Nat → Int} {n k m : Nat} (hk : k < n) (h : gz_cut a b c n (a k) (b k) (c k) m) : m.testBit k = false := by
  have ht := gz_t_self a b k
  cases hm : m.testBit k with
  | false => rfl
  | true =>
    rcases h with h | ⟨s, hs, _, h⟩
    · have := (h k hk).mp hm
      omega
    · have h1 := (h k hk).mp hm
      rw [gz_e_line ⟨rfl, rfl, rfl⟩, ht] at h1
      omega
theorem gq_Q_iff {A B C : Nat → Int} {n m : Nat} (hn : n ≤ 6) (hok : gz_ok A B n) : gq_Q A B C n n m = true ↔ m < 2 ^ n ∧ gz_reg A B C n (fun _ => True) m := by
  unfold gq_Q
  rw [Bool.or_eq_true, Bool.and_eq_true, decide_eq_true_eq, decide_eq_true_eq, an_iff]
  have hcs : ∀ s, s < n → ∀ x, gq_cs A B C n s x = true → x < 2 ^ n ∧ x.testBit s = false := by
    intro s hs x hx
    obtain ⟨h1, h2⟩ := gc_K_iff.mp hx
    exact ⟨h1, gz_cut_self hs h2⟩
  constructor
  · rintro (⟨h1, h2⟩ | ⟨s, hs, h⟩)
    · subst h1; subst h2
      exact ⟨by decide, 0, 0, 1, by decide, fun s hs => absurd hs (Nat.not_lt_zero s)⟩
    · obtain ⟨h1, h2⟩ := (gq_two_iff hn hs (hcs s hs)).mp h
      refine ⟨h1, gz_cut_reg hok hs (gc_K_iff.mp h2).2 (fun t _ hts => ?_)⟩
      rw [gz_off_bit]; simp [hts]
  · rintro ⟨hm, h⟩
    by_cases h0 : n = 0
    · subst h0
      exact Or.inl ⟨rfl, by simpa using hm⟩
    · obtain ⟨k, hk, hc⟩ := gz_reg_cut hok (by omega) h
      refine Or.inr ⟨k, hk, (gq_two_iff hn hk (hcs k hk)).mpr ⟨hm, gc_K_iff.mpr ⟨?_, hc⟩⟩⟩
      unfold gz_off
      split
      · exact Nat.xor_lt_two_pow hm (Nat.pow_lt_pow_right (by decide) hk)
      · exact hm
theorem gq_O_iff {A B : Nat → Int} {n m : Nat} (hn : n ≤ 6) : gq_O A B n n m = true ↔ m < 2 ^ n ∧ (n = 0 ∨ gz_end A B n m) := by
  unfold gq_O
  rw [Bool.or_eq_true, Bool.and_eq_true, decide_eq_true_eq, decide_eq_true_eq, an_iff]
  have hes : ∀ s, s < n → ∀ x, gq_es A B n s x = true → x < 2 ^ n ∧ x.testBit s = false := by
    intro s hs x hx
    have ht := gz_t_self A B s
    unfold gq_es at hx
    rw [Bool.or_eq_true, decide_eq_true_eq, decide_eq_true_eq] at hx
    rcases hx with hx | hx
    · rw [hx]
      refine ⟨bm_lt _ _, ?_⟩
      unfold gc_far
      rw [bm_tb, ht]; simp
    · rw [hx]
      refine ⟨bm_lt _ _, ?_⟩
      unfold gc_back
      rw [bm_tb, ht]; simp
  constructor
  · rintro (⟨h1, h2⟩ | ⟨s, hs, h⟩)
    · subst h1; subst h2
      exact ⟨by decide, Or.inl rfl⟩
    · obtain ⟨h1, h2⟩ := (gq_two_iff hn hs (hes s hs)).mp h
      refine ⟨h1, Or.inr ⟨s, hs, ?_⟩⟩
      unfold gq_es at h2
      rw [Bool.or_eq_true, decide_eq_true_eq, decide_eq_true_eq] at h2
      have hb : ∀ t, t ≠ s → (gz_off m s).testBit t = m.testBit t := fun t hts => by rw [gz_off_bit]; simp [hts]
      rcases h2 with h2 | h2
      · refine ⟨1, Or.inl rfl, fun t ht hts => ?_⟩
        rw [← hb t hts, h2]
        unfold gc_far
        rw [bm_tb]; simp [ht]
      · refine ⟨-1, Or.inr rfl, fun t ht hts => ?_⟩
        rw [← hb t hts, h2]
        unfold gc_back
        rw [bm_tb]; simp [ht]
  · rintro ⟨hm, h0 | ⟨s, hs, g, hg, h⟩⟩
    · subst h0
      exact Or.inl ⟨rfl, by simpa using hm⟩
    · refine Or.inr ⟨s, hs, (gq_two_iff hn hs (hes s hs)).mpr ⟨hm, ?_⟩⟩
      have hlt : gz_off m s < 2 ^ n := by
        unfold gz_off
        split
        · exact Nat.xor_lt_two_pow hm (Nat.pow_lt_pow_right (by decide) hs)
        · exact hm
      unfold gq_es
      rw [Bool.or_eq_true, decide_eq_true_eq, decide_eq_true_eq]
      have key : ∀ t, t < n → ((gz_off m s).testBit t = true ↔ 0 < g * gz_t A B (A s) (B s) t) := by
        intro t ht
        rw [gz_off_bit]
        by_cases hts : t = s
        · subst hts
          rw [gz_t_self]; simp
        · rw [← h t ht hts]; simp [hts]
      rcases hg with rfl | rfl
      · refine Or.inl ((bm_iff hlt).mpr fun t ht => ?_)
        rw [key t ht, decide_eq_true_eq]
      · refine Or.inr ((bm_iff hlt).mpr fun t ht => ?_)
        rw [key t ht, decide_eq_true_eq]
