/-! the plan is measured -/
def gPl (A B C : Nat → Int) (n : Nat) (t : XS) : Prop := gP A B C n t (gp_ls A B C n n) ∧ t.2 0 = lS (gq_Q A B C n n) ∧ t.2 1 = lS (gq_O A B n n)
theorem e_measure {st : XS} {n : Nat} {A B C : Nat → Int} (h : cL st n A B C) : ∃ t, F_Pla_measure st = some t ∧ (∀ k, k < 22 ∨ 27 < k → t.1 k = st.1 k) ∧ gPl A B C n t := by
  obtain ⟨t1, h1, h2, h3⟩ := e_points h
  obtain ⟨t2, g1, g2, g3, g4⟩ := e_quart (cL_u h h2)
  unfold F_Pla_measure
  rw [h1, Option.bind_some, g1, Option.bind_some]
  refine ⟨t2, rfl, fun k hk => by rw [g2]; exact h2.2 k hk, ?_, g3, g4⟩
  unfold gP at *
  rw [g2]; exact h3
theorem gP_len {A B C : Nat → Int} {n : Nat} {t : XS} {L : List (Nat × Nat)} (h : gP A B C n t L) : t.1 22 3 = zI (L.length : Int) := h.1
theorem gp_ls_15 (A B C : Nat → Int) {n : Nat} (hn : n ≤ 6) : (gp_ls A B C n n).length ≤ 15 := by
  have h := gp_ls_len A B C hn n
  have h2 : ∀ i, i < 7 → gp_b i ≤ 15 := by decide
  have := h2 n (by omega)
  omega
theorem gp_rw_mem {A B C : Nat → Int} {i : Nat} {x : Nat × Nat} : ∀ {d : Nat}, x ∈ gp_rw A B C i d ↔ x.1 = i ∧ i < x.2 ∧ x.2 < i + 1 + d ∧ gp_f A B C i x.2 = true
  | 0 => by simp [gp_rw]; omega
  | d + 1 => by
    rw [gp_rw, List.mem_append, gp_rw_mem]
    constructor
    · rintro (⟨h1, h2, h3, h4⟩ | h)
      · exact ⟨h1, h2, by omega, h4⟩
      · split at h
        · rename_i hf
          simp at h
          subst h
          exact ⟨rfl, by show i < i + 1 + d; omega, by show i + 1 + d < _; omega, hf⟩
        · simp at h
    · rintro ⟨h1, h2, h3, h4⟩
      by_cases e : x.2 = i + 1 + d
      · right
        rw [← e, if_pos h4]
        simp [← h1]
      · exact Or.inl ⟨h1, h2, by omega, h4⟩
theorem gp_ls_mem {A B C : Nat → Int} {n : Nat} {x : Nat × Nat} : ∀ {i : Nat}, i ≤ n → (x ∈ gp_ls A B C n i ↔ x.1 < i ∧ x.1 < x.2 ∧ x.2 < n ∧ gp_f A B C x.1 x.2 = true)
  | 0, _ => by simp [gp_ls]
  | i + 1, hi => by
    rw [gp_ls, List.mem_append, gp_ls_mem (by omega), gp_rw_mem]
    constructor
    · rintro (⟨h1, h2, h3, h4⟩ | ⟨h1, h2, h3, h4⟩)
      · exact ⟨by omega, h2, h3, h4⟩
      · exact ⟨by omega, by omega, by omega, by rw [h1]; exact h4⟩
    · rintro ⟨h1, h2, h3, h4⟩
      by_cases e : x.1 = i
      · exact Or.inr ⟨e, by omega, by omega, by rw [← e]; exact h4⟩
      · exact Or.inl ⟨by omega, h2, h3, h4⟩
