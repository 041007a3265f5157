/-! NUMBERS: zI z is the int of the integer z; sums and products go through, comparisons under bounds -/
def zI (z : Int) : Int32 := Int32.ofInt z
theorem zI_add (a b : Int) : zI a + zI b = zI (a + b) := (Int32.ofInt_add a b).symm
theorem zI_mul (a b : Int) : zI a * zI b = zI (a * b) := (Int32.ofInt_mul a b).symm
theorem zI_neg (a : Int) : -zI a = zI (-a) := (Int32.ofInt_neg a).symm
theorem zI_sub (a b : Int) : zI a - zI b = zI (a - b) := (Int32.ofInt_sub a b).symm
theorem zI_n (k : Nat) : zI (k : Int) = nI k := Int32.ofInt_eq_ofNat
abbrev zB (z : Int) : Prop := -2147483648 ≤ z ∧ z < 2147483648
theorem zI_t {z : Int} (h : zB z) : (zI z).toInt = z := fb_ofI h.1 h.2
theorem zI_le {a b : Int} (ha : zB a) (hb : zB b) : zI a ≤ zI b ↔ a ≤ b := by rw [Int32.le_iff_toInt_le, zI_t ha, zI_t hb]
theorem zI_lt {a b : Int} (ha : zB a) (hb : zB b) : zI a < zI b ↔ a < b := by rw [Int32.lt_iff_toInt_lt, zI_t ha, zI_t hb]
theorem zI_eq {a b : Int} (ha : zB a) (hb : zB b) : zI a = zI b ↔ a = b := by rw [← Int32.toInt_inj, zI_t ha, zI_t hb]
theorem zI_of (v : Int32) : ∃ z, zB z ∧ v = zI z := ⟨v.toInt, ⟨by have := Int32.le_toInt v; omega, by have := Int32.toInt_lt v; omega⟩, (Int32.ofInt_toInt v).symm⟩
theorem zI_cl {k : Nat} (h : k < 2147483648) : (zI (k : Int)).toNatClampNeg = k := by
  show (zI (k : Int)).toInt.toNat = k
  rw [zI_t ⟨by omega, by omega⟩]
  rfl
theorem xo_rd_z {f : Nat → Int32} {n k : Nat} (h : k < n) (hn : n < 2147483648) : xo_rd f n (zI (k : Int)) = some (f k) := by
  unfold xo_rd
  have h0 : ¬ zI (k : Int) < 0 := by
    show ¬ zI (k : Int) < zI 0
    rw [zI_lt ⟨by omega, by omega⟩ ⟨by omega, by omega⟩]; omega
  rw [if_neg h0, zI_cl (by omega), if_neg (by omega)]
theorem xo_ck_z {n k : Nat} (h : k < n) (hn : n < 2147483648) : xo_ck n (zI (k : Int)) = some () := by
  unfold xo_ck
  have h0 : ¬ zI (k : Int) < 0 := by
    show ¬ zI (k : Int) < zI 0
    rw [zI_lt ⟨by omega, by omega⟩ ⟨by omega, by omega⟩]; omega
  rw [if_neg h0, zI_cl (by omega), if_neg (by omega)]
/-- a loop that goes through I 0, I 1, .., I N and then ends -/
theorem lp_run {σ ρ : Type} {f : σ → Option (σ ⊕ ρ)} (I : Nat → σ) {r : ρ} : ∀ (N fuel : Nat), N < fuel → (∀ i, i < N → f (I i) = some (.inl (I (i + 1)))) → f (I N) = some (.inr r) → xo_lp f fuel (I 0) = some r := by
  intro N
  induction N generalizing I with
  | zero =>
    intro fuel hf _ he
    obtain ⟨m, rfl⟩ : ∃ m, fuel = m + 1 := ⟨fuel - 1, by omega⟩
    show (f (I 0)).bind _ = _
    rw [he]; rfl
  | succ N ih =>
    intro fuel hf hs he
    obtain ⟨m, rfl⟩ : ∃ m, fuel = m + 1 := ⟨fuel - 1, by omega⟩
    show (f (I 0)).bind _ = _
    rw [hs 0 (by omega)]
    show xo_lp f m (I 1) = some r
    exact ih (fun i => I (i + 1)) m (by omega) (fun i hi => hs (i + 1) (by omega)) he
theorem lp_go {σ ρ τ : Type} {f : σ → Option (σ ⊕ ρ)} {g : ρ → Option τ} {x0 : σ} {fuel : Nat} (I : Nat → σ) (N : Nat) (r : ρ) (h0 : x0 = I 0) (hN : N < fuel) (hs : ∀ i, i < N → f (I i) = some (.inl (I (i + 1)))) (he : f (I N) = some (.inr r)) : (xo_lp f fuel x0).bind g = g r := by
  rw [h0, lp_run I N fuel hN hs he]; rfl
/-- the set of all s < n with P as bits -/
def bm (P : Nat → Bool) : Nat → Nat
  | 0 => 0
  | n + 1 => bm P n ||| (if P n then 2 ^ n else 0)
theorem bm_tb (P : Nat → Bool) (n s : Nat) : (bm P n).testBit s = (decide (s < n) && P s) := by
  induction n with
  | zero => simp [bm]
  | succ n ih =>
    rw [bm, Nat.testBit_or, ih]
    by_cases hP : P n
    · rw [if_pos hP, Nat.testBit_two_pow]
      by_cases e : n = s
      · subst e; simp [hP]
      · have : (s < n + 1) = (s < n) := by simp; omega
        simp [this, e]
    · rw [if_neg hP, Nat.zero_testBit]
      by_cases e : n = s
      · subst e; simp [hP]
      · have : (s < n + 1) = (s < n) := by simp; omega
        simp [this]
theorem bm_lt (P : Nat → Bool) (n : Nat) : bm P n < 2 ^ n := by
  apply Nat.lt_pow_two_of_testBit
  intro i hi
  rw [bm_tb]
  have : ¬ i < n := by omega
  simp [this]
theorem bm_cong {P Q : Nat → Bool} {n : Nat} (h : ∀ s, s < n → P s = Q s) : bm P n = bm Q n := by
  apply Nat.eq_of_testBit_eq
  intro i
  rw [bm_tb, bm_tb]
  by_cases e : i < n
  · rw [h i e]
  · simp [e]
theorem bm_inj {P Q : Nat → Bool} {n : Nat} (h : bm P n = bm Q n) : ∀ s, s < n → P s = Q s := by
  intro s hs
  have := congrArg (fun m => m.testBit s) h
  simp only [bm_tb] at this
  simpa [hs] using this
theorem zI_or (a b : Nat) : zI (a : Int) ||| zI (b : Int) = zI ((a ||| b : Nat) : Int) := by rw [zI_n, zI_n, zI_n, fa_or]
theorem zI_and (a b : Nat) : zI (a : Int) &&& zI (b : Int) = zI ((a &&& b : Nat) : Int) := by rw [zI_n, zI_n, zI_n, fa_and]
theorem zI_xor (a b : Nat) : zI (a : Int) ^^^ zI (b : Int) = zI ((a ^^^ b : Nat) : Int) := by rw [zI_n, zI_n, zI_n, nx_xor]
theorem zI_bit : ∀ s : Nat, s < 32 → (1 : Int32) <<< (zI (s : Int) &&& 31) = zI ((2 ^ s : Nat) : Int) := by decide +kernel
