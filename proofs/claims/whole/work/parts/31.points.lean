/-! THE POINTS, as the class keeps them: the first two lines of each, in order -/
def gp_f (A B C : Nat → Int) (i j : Nat) : Bool := !(an (fun k => decide (k ≠ i) && decide (gz_p A B C i j k = 0)) j)
theorem gp_f_iff {A B C : Nat → Int} {i j : Nat} : gp_f A B C i j = true ↔ gz_fst A B C i j := by
  unfold gp_f gz_fst
  rw [Bool.not_eq_true', Bool.eq_false_iff, Ne, an_iff]
  simp only [Bool.and_eq_true, decide_eq_true_eq]
  constructor
  · intro h k hk hki hz
    exact h ⟨k, hk, hki, hz⟩
  · rintro h ⟨k, hk, hki, hz⟩
    exact h k hk hki hz
def gp_rw (A B C : Nat → Int) (i : Nat) : Nat → List (Nat × Nat)
  | 0 => []
  | d + 1 => gp_rw A B C i d ++ (if gp_f A B C i (i + 1 + d) then [(i, i + 1 + d)] else [])
def gp_ls (A B C : Nat → Int) (n : Nat) : Nat → List (Nat × Nat)
  | 0 => []
  | i + 1 => gp_ls A B C n i ++ gp_rw A B C i (n - (i + 1))
theorem gp_rw_len (A B C : Nat → Int) (i : Nat) : ∀ d, (gp_rw A B C i d).length ≤ d
  | 0 => Nat.le_refl 0
  | d + 1 => by
    have h := gp_rw_len A B C i d
    rw [gp_rw, List.length_append]
    split <;> simp <;> omega
def gp_b : Nat → Nat
  | 0 => 0
  | i + 1 => gp_b i + (5 - i)
theorem gp_ls_len (A B C : Nat → Int) {n : Nat} (hn : n ≤ 6) : ∀ i, (gp_ls A B C n i).length ≤ gp_b i
  | 0 => Nat.le_refl 0
  | i + 1 => by
    have h := gp_ls_len A B C hn i
    have h2 := gp_rw_len A B C i (n - (i + 1))
    rw [gp_ls, List.length_append, gp_b]
    omega
theorem gp_b_le : ∀ i, i < 6 → gp_b i + (5 - i) ≤ 15 := by decide
/-- the plan's arrays hold the points of L -/
def gP (A B C : Nat → Int) (n : Nat) (t : XS) (L : List (Nat × Nat)) : Prop := t.1 22 3 = zI (L.length : Int) ∧ ∀ k i j, L[k]? = some (i, j) → t.1 23 k = zI (gz_X A B C (A i) (B i) (C i) j) ∧ t.1 24 k = zI (gz_Y A B C (A i) (B i) (C i) j) ∧ t.1 25 k = zI (gz_W A B (A i) (B i) j) ∧ t.1 26 k = zI ((bm (fun s => decide (gz_p A B C i j s = 0)) n : Nat) : Int) ∧ t.1 27 k = zI ((bm (fun s => decide (0 < gz_p A B C i j s)) n : Nat) : Int)
def gU (st t : XS) : Prop := t.2 = st.2 ∧ ∀ k, k < 22 ∨ 27 < k → t.1 k = st.1 k
theorem cL_u {st t : XS} {n : Nat} {A B C : Nat → Int} (h : cL st n A B C) (e : gU st t) : cL t n A B C := by
  unfold cL at *
  rw [e.2 1 (by omega), e.2 3 (by omega), e.2 4 (by omega), e.2 5 (by omega)]; exact h
theorem gp_first {A B C : Nat → Int} {n i j : Nat} (hij : i < j) (hj : j < n) (hn : n ≤ 6) : (zI ((bm (fun s => decide (gz_p A B C i j s = 0)) n : Nat) : Int) &&& (((1 : Int32) <<< (zI (j : Int) &&& 31)) - (1 : Int32)) = (1 : Int32) <<< (zI (i : Int) &&& 31)) ↔ gp_f A B C i j = true := by
  have hjp : (1 : Int32) <<< (zI (j : Int) &&& 31) - (1 : Int32) = zI ((2 ^ j - 1 : Nat) : Int) := by
    rw [zI_bit j (by omega), show (1 : Int32) = zI 1 from rfl, zI_sub]
    congr 1
    have : 0 < 2 ^ j := Nat.two_pow_pos j
    omega
  have h64 : ∀ k, k < n → 2 ^ k < 128 := fun k hk => by
    have : 2 ^ k < 2 ^ 7 := Nat.pow_lt_pow_right (by decide) (by omega)
    omega
  have hlt : bm (fun s => decide (gz_p A B C i j s = 0)) n &&& (2 ^ j - 1) < 128 := by
    have h1 : bm (fun s => decide (gz_p A B C i j s = 0)) n &&& (2 ^ j - 1) ≤ 2 ^ j - 1 := Nat.and_le_right
    have := h64 j hj
    omega
  rw [hjp, zI_and, zI_bit i (by omega), zI_eq (zB_n (by omega)) (zB_n (by have := h64 i (by omega); omega)), Int.ofNat_inj, gp_f_iff]
  constructor
  · intro h k hk hki hz
    have h1 := congrArg (fun m => m.testBit k) h
    simp only [Nat.testBit_and, bm_tb, Nat.testBit_two_pow_sub_one, Nat.testBit_two_pow] at h1
    have h2 : ¬ i = k := fun e => hki e.symm
    have h3 : k < n := by omega
    simp [hz, hk, h2, h3] at h1
  · intro h
    apply Nat.eq_of_testBit_eq
    intro k
    rw [Nat.testBit_and, bm_tb, Nat.testBit_two_pow_sub_one, Nat.testBit_two_pow]
    by_cases hki : i = k
    · subst hki
      have h3 : i < n := by omega
      simp [gz_p_i, hij, h3]
    · by_cases hk : k < j
      · have := h k hk (fun e => hki e.symm)
        simp [this, hki]
      · simp [hk, hki]
