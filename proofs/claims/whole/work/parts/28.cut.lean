/-! WHAT A LINE CUTS, as the class counts it -/
def an (P : Nat → Bool) : Nat → Bool
  | 0 => false
  | n + 1 => an P n || P n
theorem an_iff {P : Nat → Bool} : ∀ {n : Nat}, an P n = true ↔ ∃ s, s < n ∧ P s = true
  | 0 => ⟨(fun h => by cases h), fun ⟨s, h, _⟩ => absurd h (Nat.not_lt_zero s)⟩
  | n + 1 => by
    rw [an, Bool.or_eq_true, an_iff]
    constructor
    · rintro (⟨s, h, g⟩ | h)
      · exact ⟨s, by omega, g⟩
      · exact ⟨n, by omega, h⟩
    · rintro ⟨s, h, g⟩
      by_cases e : s = n
      · subst e; exact Or.inr g
      · exact Or.inl ⟨s, by omega, g⟩
theorem bm_iff {P : Nat → Bool} {n m : Nat} (hm : m < 2 ^ n) : m = bm P n ↔ ∀ t, t < n → (m.testBit t = true ↔ P t = true) := by
  constructor
  · intro e t ht
    rw [e, bm_tb]; simp [ht]
  · intro h
    apply Nat.eq_of_testBit_eq
    intro i
    rw [bm_tb]
    by_cases hi : i < n
    · have h1 := h i hi
      simp only [hi, decide_true, Bool.true_and]
      cases hm : m.testBit i <;> cases hP : P i <;> simp_all
    · have h1 : m.testBit i = false := Nat.testBit_lt_two_pow (Nat.lt_of_lt_of_le hm (Nat.pow_le_pow_right (by decide) (by omega)))
      simp [hi, h1]
def gc_far (A B : Nat → Int) (p q : Int) (n : Nat) : Nat := bm (fun s => decide (0 < 1 * gz_t A B p q s)) n
def gc_at (A B C : Nat → Int) (p q r : Int) (n s : Nat) : Nat := bm (fun t => decide (0 < gz_e A B C p q r s t) || (decide (gz_e A B C p q r s t = 0) && decide (0 < -1 * gz_t A B p q t))) n
def gc_K (A B C : Nat → Int) (p q r : Int) (n i m : Nat) : Bool := decide (m = gc_far A B p q n) || an (fun s => decide (gz_t A B p q s ≠ 0) && decide (m = gc_at A B C p q r n s)) i
theorem gc_K_iff {A B C : Nat → Int} {p q r : Int} {n m : Nat} : gc_K A B C p q r n n m = true ↔ m < 2 ^ n ∧ gz_cut A B C n p q r m := by
  unfold gc_K gz_cut
  rw [Bool.or_eq_true, an_iff]
  simp only [Bool.and_eq_true, decide_eq_true_eq]
  constructor
  · rintro (h | ⟨s, hs, ht, h⟩)
    · have hm : m < 2 ^ n := by rw [h]; exact bm_lt _ _
      refine ⟨hm, Or.inl fun t ht => ?_⟩
      rw [(bm_iff hm).mp h t ht, Int.one_mul, decide_eq_true_eq]
    · have hm : m < 2 ^ n := by rw [h]; exact bm_lt _ _
      refine ⟨hm, Or.inr ⟨s, hs, ht, fun t ht => ?_⟩⟩
      rw [(bm_iff hm).mp h t ht]
      simp only [Bool.or_eq_true, Bool.and_eq_true, decide_eq_true_eq]
      constructor
      · rintro (z | ⟨z, y⟩)
        · exact Or.inl z
        · exact Or.inr ⟨z, by omega⟩
      · rintro (z | ⟨z, y⟩)
        · exact Or.inl z
        · exact Or.inr ⟨z, by omega⟩
  · rintro ⟨hm, h | ⟨s, hs, ht, h⟩⟩
    · refine Or.inl ((bm_iff hm).mpr fun t ht => ?_)
      rw [h t ht, Int.one_mul, decide_eq_true_eq]
    · refine Or.inr ⟨s, hs, ht, (bm_iff hm).mpr fun t ht => ?_⟩
      rw [h t ht]
      simp only [Bool.or_eq_true, Bool.and_eq_true, decide_eq_true_eq]
      constructor
      · rintro (z | ⟨z, y⟩)
        · exact Or.inl z
        · exact Or.inr ⟨z, by omega⟩
      · rintro (z | ⟨z, y⟩)
        · exact Or.inl z
        · exact Or.inr ⟨z, by omega⟩
theorem p2_64 {n : Nat} (h : n ≤ 6) : 2 ^ n ≤ 64 := (Nat.pow_le_pow_right (n := 2) (by decide) h : 2 ^ n ≤ 2 ^ 6)
theorem e_cut_m {st : XS} {n : Nat} {A B C : Nat → Int} (h : cL st n A B C) {p q r : Int} (hp : ab 9 p) (hq : ab 9 q) (hr : ab 99 r) {i : Nat} (hi : i < n) (hne : gz_t A B p q i ≠ 0) : F_Pla_cutBy_m54 (zI p) (zI q) (zI r) (lS (gc_K A B C p q r n i)) (zI (i : Int)) (zI (gz_t A B p q i)) (zI (gz_sg (gz_t A B p q i))) st = some (.inl (lS (gc_K A B C p q r n (i + 1)), zI ((i + 1 : Nat) : Int))) := by
  have h6 := h.2.1
  obtain ⟨h1, h2, h3⟩ := h.2.2.1 i hi
  obtain ⟨bX, bY, bW⟩ := gX_ab h.2.2.2 hp hq hr hi
  unfold F_Pla_cutBy_m54
  simp only [xo_nm_b, xo_rd_z (show i < 6 by omega) (by decide), Option.bind_some, h1, h2, h3, zI_mul, zI_sub]
  have eX : gz_sg (gz_t A B p q i) * (r * B i - q * C i) = gz_X A B C p q r i := rfl
  have eY : gz_sg (gz_t A B p q i) * (p * C i - r * A i) = gz_Y A B C p q r i := rfl
  have eW : gz_sg (gz_t A B p q i) * gz_t A B p q i = gz_W A B p q i := rfl
  have e1 : (-1 : Int32) = zI (-1) := rfl
  rw [eX, eY, eW, e_sides h bX bY bW, Option.bind_some, e_through h bX bY bW, Option.bind_some, e1, e_far h hp hq (show ab 1 (-1) from Nat.le_refl 1), Option.bind_some, zI_and, zI_or, bm_and, bm_or]
  have hv : gc_at A B C p q r n i < 64 := Nat.lt_of_lt_of_le (bm_lt _ _) (p2_64 h6)
  have eV : bm (fun m => decide (0 < gz_h A B C m (gz_X A B C p q r i) (gz_Y A B C p q r i) (gz_W A B p q i)) || (decide (gz_h A B C m (gz_X A B C p q r i) (gz_Y A B C p q r i) (gz_W A B p q i) = 0) && decide (0 < -1 * gz_t A B p q m))) n = gc_at A B C p q r n i := rfl
  rw [eV, lS_one hv, lS_or, zI_suc]
  have eK : lS (fun m => gc_K A B C p q r n i m || decide (m = gc_at A B C p q r n i)) = lS (gc_K A B C p q r n (i + 1)) := by
    apply lS_cong
    intro m _
    unfold gc_K
    rw [an, ← Bool.or_assoc]
    simp [hne]
  rw [eK]
theorem e_cut {st : XS} {n : Nat} {A B C : Nat → Int} (h : cL st n A B C) {p q r : Int} (hp : ab 9 p) (hq : ab 9 q) (hr : ab 99 r) : F_Pla_cutBy (zI p) (zI q) (zI r) st = some (lS (gc_K A B C p q r n n)) := by
  have h6 := h.2.1
  unfold F_Pla_cutBy
  rw [zI_1, e_far h hp hq (show ab 1 1 from Nat.le_refl 1), Option.bind_some]
  have hv : gc_far A B p q n < 64 := Nat.lt_of_lt_of_le (bm_lt _ _) (p2_64 h6)
  have eV : bm (fun s => decide (0 < 1 * gz_t A B p q s)) n = gc_far A B p q n := rfl
  rw [eV, lS_one hv, xo_nm_b]
  refine (lp_go (fun i => (lS (gc_K A B C p q r n i), zI (i : Int))) n (lS (gc_K A B C p q r n n)) ?_ (by omega) (fun i hi => ?_) ?_).trans rfl
  · congr 1
    apply lS_cong
    intro m _
    unfold gc_K
    rw [an, Bool.or_false]
  · unfold F_Pla_cutBy_b14
    dsimp only
    rw [h.1, if_neg (zI_ge1 (by omega) hi), e_turn h p q hi, Option.bind_some, zI_0]
    have hB := ab_B (gt_ab h.2.2.2 hp hq hi) (by decide)
    by_cases he : gz_t A B p q i = 0
    · rw [if_pos (by rw [zI_eq hB (by decide)]; exact he), xo_nm_b, zI_suc]
      congr 3
      apply lS_cong
      intro m _
      unfold gc_K
      rw [an, he]
      simp
    · rw [if_neg (by rw [zI_eq hB (by decide)]; exact he)]
      have hm := e_cut_m h hp hq hr hi he
      by_cases hs : gz_t A B p q i < 0
      · rw [if_neg (by rw [zI_le (by decide) hB]; omega)]
        rw [show gz_sg (gz_t A B p q i) = -1 from if_pos hs] at hm
        exact hm
      · rw [if_pos (by rw [zI_le (by decide) hB]; omega)]
        rw [show gz_sg (gz_t A B p q i) = 1 from if_neg hs] at hm
        exact hm
  · unfold F_Pla_cutBy_b14
    dsimp only
    rw [h.1, if_pos (zI_rfl _)]
