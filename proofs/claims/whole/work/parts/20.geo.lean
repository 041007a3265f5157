/-! GEOMETRY, by whole numbers: a point is (x, y, w), w above 0; line s: a s, b s, c s; gh: how far on side 1 -/
def gz_h (a b c : Nat → Int) (s : Nat) (x y w : Int) : Int := a s * x + b s * y - c s * w
def gz_t (a b : Nat → Int) (p q : Int) (s : Nat) : Int := p * b s - q * a s
theorem gz_lg (a b : Int) : a < b ∨ b ≤ a := by omega
theorem gz_sq {x : Int} (hx : x ≠ 0) : 0 < x * x := by
  rcases Int.lt_or_gt_of_ne hx with h | h
  · exact Int.mul_pos_of_neg_of_neg h h
  · exact Int.mul_pos h h
theorem gz_p1 {x z u v : Int} (hx : x ≠ 0) (hu : 0 < u) (hv : 0 ≤ v) (h : 0 ≤ x * z) : 0 < x * (u * x + v * z) := by
  have h2 : 0 < u * (x * x) := Int.mul_pos hu (gz_sq hx)
  have h3 : 0 ≤ v * (x * z) := Int.mul_nonneg hv h
  have e : x * (u * x + v * z) = u * (x * x) + v * (x * z) := by grind
  omega
/-- N times z outweighs f -/
theorem gz_big {x z f N : Int} (h : 0 < x * z) (h1 : -N < f) (h2 : f < N) : 0 < x * (N * z + f) := by
  rcases Int.lt_trichotomy x 0 with hx | hx | hx
  · have hz : z < 0 := by
      rcases gz_lg z 0 with q | q
      · exact q
      · have := Int.mul_nonneg (show (0:Int) ≤ -x by omega) q
        have e : -x * z = -(x * z) := Int.neg_mul x z
        omega
    have h3 : N * z ≤ N * (-1) := Int.mul_le_mul_of_nonneg_left (by omega) (by omega)
    exact Int.mul_pos_of_neg_of_neg hx (by omega)
  · subst hx; simp at h
  · have hz : 0 < z := by
      rcases gz_lg 0 z with q | q
      · exact q
      · have := Int.mul_nonneg (show (0:Int) ≤ x by omega) (show (0:Int) ≤ -z by omega)
        have e : x * -z = -(x * z) := Int.mul_neg x z
        omega
    have h3 : N * 1 ≤ N * z := Int.mul_le_mul_of_nonneg_left (by omega) (by omega)
    exact Int.mul_pos hx (by omega)
theorem gz_N (f : Nat → Int) : ∀ n : Nat, ∃ N : Int, 0 < N ∧ ∀ s, s < n → -N < f s ∧ f s < N := by
  intro n
  induction n with
  | zero => exact ⟨1, by omega, fun s h => absurd h (by omega)⟩
  | succ n ih =>
    obtain ⟨N, h0, h⟩ := ih
    refine ⟨N + (if 0 ≤ f n then f n else - f n) + 1, by split <;> omega, fun s hs => ?_⟩
    rcases Nat.lt_or_ge s n with q | q
    · have := h s q
      split <;> omega
    · obtain rfl : s = n := by omega
      split <;> omega
theorem gz_lin (a b c : Nat → Int) (s : Nat) (u v x y w x2 y2 w2 : Int) : gz_h a b c s (u * x + v * x2) (u * y + v * y2) (u * w + v * w2) = u * gz_h a b c s x y w + v * gz_h a b c s x2 y2 w2 := by
  unfold gz_h; grind
theorem gz_dir (a b c : Nat → Int) (s : Nat) (p q : Int) : gz_h a b c s (-q) p 0 = gz_t a b p q s := by
  unfold gz_h gz_t; grind
theorem gz_foot (a b c : Nat → Int) (s : Nat) : gz_h a b c s (a s * c s) (b s * c s) (a s * a s + b s * b s) = 0 := by
  unfold gz_h; grind
theorem gz_nz {x y : Int} (h : x ≠ 0 ∨ y ≠ 0) : 0 < x * x + y * y := by
  have h1 : ∀ z : Int, 0 ≤ z * z := fun z => by
    rcases Int.lt_trichotomy z 0 with q | q | q
    · exact Int.le_of_lt (Int.mul_pos_of_neg_of_neg q q)
    · subst q; simp
    · exact Int.le_of_lt (Int.mul_pos q q)
  rcases h with h | h
  · have := gz_sq h; have := h1 y; omega
  · have := gz_sq h; have := h1 x; omega
/-- a region lies at a line: of the lines T there is one, and a point on it, that the rest see as they see X -/
theorem gz_adj {a b c : Nat → Int} {T : Nat → Prop} {x y w : Int} (hw : 0 < w) : ∀ n : Nat,
    (∀ s, s < n → T s → a s ≠ 0 ∨ b s ≠ 0) → (∀ i j, i < n → j < n → i ≠ j → T i → T j → gz_t a b (a i) (b i) j ≠ 0) → (∀ s, s < n → T s → gz_h a b c s x y w ≠ 0) → (∃ s, s < n ∧ T s) →
    ∃ k x2 y2 w2, k < n ∧ T k ∧ 0 < w2 ∧ gz_h a b c k x2 y2 w2 = 0 ∧ ∀ s, s < n → T s → s ≠ k → 0 < gz_h a b c s x y w * gz_h a b c s x2 y2 w2 := by
  intro n
  induction n with
  | zero => intro _ _ _ ⟨s, h, _⟩; omega
  | succ n ih =>
    intro h0 hd hX hT
    by_cases hTn : T n
    · by_cases hE : ∃ s, s < n ∧ T s
      · obtain ⟨k, x2, y2, w2, hk, hTk, hw2, hkz, hs⟩ := ih (fun s h => h0 s (by omega)) (fun i j hi hj => hd i j (by omega) (by omega)) (fun s h => hX s (by omega)) hE
        have hn0 := hX n (by omega) hTn
        rcases Int.lt_trichotomy (gz_h a b c n x y w * gz_h a b c n x2 y2 w2) 0 with hlt | heq | hgt
        · -- opposite: between them a point on n
          have hz0 : gz_h a b c n x2 y2 w2 ≠ 0 := fun e => by rw [e] at hlt; simp at hlt
          generalize hA : gz_h a b c n x y w = A at hlt hn0
          generalize hB : gz_h a b c n x2 y2 w2 = B at hlt hz0
          obtain ⟨u, v, hu, hv, huv⟩ : ∃ u v : Int, 0 < u ∧ 0 < v ∧ u * A + v * B = 0 := by
            rcases Int.lt_or_gt_of_ne hn0 with q | q
            · have hB0 : 0 < B := by
                rcases Int.lt_or_gt_of_ne hz0 with r | r
                · have := Int.mul_pos_of_neg_of_neg q r; omega
                · exact r
              exact ⟨B, -A, hB0, by omega, by grind⟩
            · have hB0 : B < 0 := by
                rcases Int.lt_or_gt_of_ne hz0 with r | r
                · exact r
                · have := Int.mul_pos q r; omega
              exact ⟨-B, A, by omega, q, by grind⟩
          refine ⟨n, u * x + v * x2, u * y + v * y2, u * w + v * w2, by omega, hTn, ?_, ?_, fun s hs' hTs hne => ?_⟩
          · have := Int.mul_pos hu hw; have := Int.mul_pos hv hw2; omega
          · rw [gz_lin, hA, hB]; exact huv
          · rw [gz_lin]
            refine gz_p1 (hX s (by omega) hTs) hu (Int.le_of_lt hv) ?_
            by_cases hsk : s = k
            · subst hsk; rw [hkz]; simp
            · exact Int.le_of_lt (hs s (by omega) hTs hsk)
        · -- on n already: a little along k
          have hz0 : gz_h a b c n x2 y2 w2 = 0 := by
            rcases Int.mul_eq_zero.mp heq with q | q
            · exact absurd q hn0
            · exact q
          have hdk := hd k n (by omega) (by omega) (by omega) hTk hTn
          obtain ⟨sg, hsg, hsp⟩ : ∃ sg : Int, (sg = 1 ∨ sg = -1) ∧ 0 < gz_h a b c n x y w * (sg * gz_t a b (a k) (b k) n) := by
            have hm : gz_h a b c n x y w * gz_t a b (a k) (b k) n ≠ 0 := Int.mul_ne_zero hn0 hdk
            rcases Int.lt_or_gt_of_ne hm with q | q
            · exact ⟨-1, Or.inr rfl, by have : gz_h a b c n x y w * (-1 * gz_t a b (a k) (b k) n) = -(gz_h a b c n x y w * gz_t a b (a k) (b k) n) := by grind
                                        omega⟩
            · exact ⟨1, Or.inl rfl, by rw [Int.one_mul]; exact q⟩
          obtain ⟨N, hN, hNs⟩ := gz_N (fun s => sg * gz_t a b (a k) (b k) s) n
          have hval : ∀ s, gz_h a b c s (N * x2 + sg * (-(b k))) (N * y2 + sg * a k) (N * w2 + sg * 0) = N * gz_h a b c s x2 y2 w2 + sg * gz_t a b (a k) (b k) s := fun s => by rw [gz_lin, gz_dir]
          refine ⟨k, N * x2 + sg * (-(b k)), N * y2 + sg * a k, N * w2 + sg * 0, by omega, hTk, ?_, ?_, fun s hs' hTs hne => ?_⟩
          · have := Int.mul_pos hN hw2; omega
          · rw [hval, hkz]
            have : gz_t a b (a k) (b k) k = 0 := by unfold gz_t; grind
            rw [this]; simp
          · rw [hval]
            rcases Nat.lt_or_ge s n with q | q
            · exact gz_big (hs s q hTs hne) (hNs s q).1 (hNs s q).2
            · obtain rfl : s = n := by omega
              rw [hz0]
              have e : N * 0 + sg * gz_t a b (a k) (b k) s = sg * gz_t a b (a k) (b k) s := by simp
              rw [e]; exact hsp
        · refine ⟨k, x2, y2, w2, by omega, hTk, hw2, hkz, fun s hs' hTs hne => ?_⟩
          rcases Nat.lt_or_ge s n with q | q
          · exact hs s q hTs hne
          · obtain rfl : s = n := by omega
            exact hgt
      · refine ⟨n, a n * c n, b n * c n, a n * a n + b n * b n, by omega, hTn, gz_nz (h0 n (by omega) hTn), gz_foot a b c n, fun s hs hTs hne => ?_⟩
        exact absurd ⟨s, by omega, hTs⟩ hE
    · obtain ⟨s1, hs1, hTs1⟩ := hT
      obtain ⟨k, x2, y2, w2, hk, hTk, hw2, hkz, hs⟩ := ih (fun s h => h0 s (by omega)) (fun i j hi hj => hd i j (by omega) (by omega)) (fun s h => hX s (by omega)) ⟨s1, by
        rcases Nat.lt_or_ge s1 n with q | q
        · exact q
        · obtain rfl : s1 = n := by omega
          exact absurd hTs1 hTn, hTs1⟩
      refine ⟨k, x2, y2, w2, by omega, hTk, hw2, hkz, fun s hs' hTs hne => ?_⟩
      rcases Nat.lt_or_ge s n with q | q
      · exact hs s q hTs hne
      · obtain rfl : s = n := by omega
        exact absurd hTs hTn
/-- of fractions be s / al s (al above 0) the least above 0, if there is one -/
theorem gz_least {al be : Nat → Int} {T : Nat → Prop} : ∀ n : Nat, (∀ s, s < n → T s → 0 < al s ∧ be s ≠ 0) →
    (∀ t, t < n → T t → be t < 0) ∨ ∃ s, s < n ∧ T s ∧ 0 < be s ∧ ∀ t, t < n → T t → be t < 0 ∨ be s * al t ≤ be t * al s := by
  intro n
  induction n with
  | zero => intro _; exact Or.inl (fun t h => absurd h (by omega))
  | succ n ih =>
    intro h
    by_cases hTn : T n
    · obtain ⟨hal, hbe⟩ := h n (by omega) hTn
      rcases ih (fun s hs => h s (by omega)) with hA | ⟨s, hs, hTs, hb, hm⟩
      · rcases Int.lt_or_gt_of_ne hbe with q | q
        · refine Or.inl (fun t ht hTt => ?_)
          rcases Nat.lt_or_ge t n with r | r
          · exact hA t r hTt
          · obtain rfl : t = n := by omega
            exact q
        · refine Or.inr ⟨n, by omega, hTn, q, fun t ht hTt => ?_⟩
          rcases Nat.lt_or_ge t n with r | r
          · exact Or.inl (hA t r hTt)
          · obtain rfl : t = n := by omega
            exact Or.inr (Int.le_refl _)
      · obtain ⟨hals, -⟩ := h s (by omega) hTs
        rcases Int.lt_or_gt_of_ne hbe with q | q
        · refine Or.inr ⟨s, by omega, hTs, hb, fun t ht hTt => ?_⟩
          rcases Nat.lt_or_ge t n with r | r
          · exact hm t r hTt
          · obtain rfl : t = n := by omega
            exact Or.inl q
        · rcases gz_lg (be n * al s) (be s * al n) with r | r
          · refine Or.inr ⟨n, by omega, hTn, q, fun t ht hTt => ?_⟩
            rcases Nat.lt_or_ge t n with r2 | r2
            · rcases hm t r2 hTt with m1 | m1
              · exact Or.inl m1
              · right
                obtain ⟨halt, -⟩ := h t (by omega) hTt
                have e1 : be s * al t * al n ≤ be t * al s * al n := Int.mul_le_mul_of_nonneg_right m1 (Int.le_of_lt hal)
                have e2 : be n * al s * al t ≤ be s * al n * al t := Int.mul_le_mul_of_nonneg_right (Int.le_of_lt r) (Int.le_of_lt halt)
                have e3 : (be n * al t) * al s ≤ (be t * al n) * al s := by
                  have i1 : be s * al t * al n = be s * al n * al t := by grind
                  have i2 : be n * al s * al t = (be n * al t) * al s := by grind
                  have i3 : be t * al s * al n = (be t * al n) * al s := by grind
                  omega
                exact Int.le_of_mul_le_mul_right e3 hals
            · obtain rfl : t = n := by omega
              exact Or.inr (Int.le_refl _)
          · refine Or.inr ⟨s, by omega, hTs, hb, fun t ht hTt => ?_⟩
            rcases Nat.lt_or_ge t n with r2 | r2
            · exact hm t r2 hTt
            · obtain rfl : t = n := by omega
              exact Or.inr r
    · rcases ih (fun s hs => h s (by omega)) with hA | ⟨s, hs, hTs, hb, hm⟩
      · refine Or.inl (fun t ht hTt => ?_)
        rcases Nat.lt_or_ge t n with r | r
        · exact hA t r hTt
        · obtain rfl : t = n := by omega
          exact absurd hTt hTn
      · refine Or.inr ⟨s, by omega, hTs, hb, fun t ht hTt => ?_⟩
        rcases Nat.lt_or_ge t n with r | r
        · exact hm t r hTt
        · obtain rfl : t = n := by omega
          exact absurd hTt hTn
