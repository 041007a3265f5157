/-! THE CLASS: what its small functions answer -/
def ab (k : Nat) (z : Int) : Prop := z.natAbs ≤ k
theorem ab_mul {j k : Nat} {x y : Int} (h : ab j x) (g : ab k y) : ab (j * k) (x * y) := by
  unfold ab at *; rw [Int.natAbs_mul]; exact Nat.mul_le_mul h g
theorem ab_add {j k : Nat} {x y : Int} (h : ab j x) (g : ab k y) : ab (j + k) (x + y) := by unfold ab at *; omega
theorem ab_sub {j k : Nat} {x y : Int} (h : ab j x) (g : ab k y) : ab (j + k) (x - y) := by unfold ab at *; omega
theorem ab_neg {j : Nat} {x : Int} (h : ab j x) : ab j (-x) := by unfold ab at *; omega
theorem ab_sg {k : Nat} {x : Int} (t : Int) (h : ab k x) : ab k (gz_sg t * x) := by
  unfold ab at *; rcases gz_sg_or t with e | e <;> rw [e] <;> omega
theorem ab_B {k : Nat} {z : Int} (h : ab k z) (hk : k < 2147483648) : zB z := by unfold ab at h; unfold zB; omega
theorem zB_n {k : Nat} (hk : k < 2147483648) : zB (k : Int) := ⟨by omega, by omega⟩
theorem zI_ge1 {n s : Nat} (hn : n < 1000) (h : s < n) : ¬ zI (n : Int) ≤ zI (s : Int) := by rw [zI_le (zB_n (by omega)) (zB_n (by omega))]; omega
theorem zI_rfl (x : Int) : zI x ≤ zI x := Int32.le_refl _
theorem zI_0 : (0 : Int32) = zI 0 := rfl
theorem zI_1 : (1 : Int32) = zI 1 := rfl
theorem zI_suc (s : Nat) : zI (s : Int) + (1 : Int32) = zI ((s + 1 : Nat) : Int) := by rw [zI_1, zI_add]; rfl
def gB (A B C : Nat → Int) (n : Nat) : Prop := ∀ s, s < n → ab 9 (A s) ∧ ab 9 (B s) ∧ ab 99 (C s)
def cL (st : XS) (n : Nat) (A B C : Nat → Int) : Prop := st.1 1 4 = zI (n : Int) ∧ n ≤ 6 ∧ (∀ s, s < n → st.1 3 s = zI (A s) ∧ st.1 4 s = zI (B s) ∧ st.1 5 s = zI (C s)) ∧ gB A B C n
theorem gt_ab {A B C : Nat → Int} {n : Nat} (h : gB A B C n) {p q : Int} (hp : ab 9 p) (hq : ab 9 q) {s : Nat} (hs : s < n) : ab 162 (gz_t A B p q s) := by
  obtain ⟨h1, h2, -⟩ := h s hs
  exact ab_sub (ab_mul hp h2) (ab_mul hq h1)
theorem gh_ab {A B C : Nat → Int} {n : Nat} (h : gB A B C n) {x y w : Int} (hx : ab 1782 x) (hy : ab 1782 y) (hw : ab 162 w) {s : Nat} (hs : s < n) : ab 48114 (gz_h A B C s x y w) := by
  obtain ⟨h1, h2, h3⟩ := h s hs
  exact ab_sub (ab_add (ab_mul h1 hx) (ab_mul h2 hy)) (ab_mul h3 hw)
theorem gX_ab {A B C : Nat → Int} {n : Nat} (h : gB A B C n) {p q r : Int} (hp : ab 9 p) (hq : ab 9 q) (hr : ab 99 r) {s : Nat} (hs : s < n) : ab 1782 (gz_X A B C p q r s) ∧ ab 1782 (gz_Y A B C p q r s) ∧ ab 162 (gz_W A B p q s) := by
  obtain ⟨h1, h2, h3⟩ := h s hs
  exact ⟨ab_sg _ (ab_sub (ab_mul hr h2) (ab_mul hq h3)), ab_sg _ (ab_sub (ab_mul hp h3) (ab_mul hr h1)), ab_sg _ (gt_ab h hp hq hs)⟩
theorem e_turn {st : XS} {n : Nat} {A B C : Nat → Int} (h : cL st n A B C) (p q : Int) {s : Nat} (hs : s < n) : F_Tow_turn (zI p) (zI q) (zI (s : Int)) st = some (zI (gz_t A B p q s)) := by
  obtain ⟨-, h6, hl, -⟩ := h
  obtain ⟨h1, h2, -⟩ := hl s hs
  unfold F_Tow_turn
  rw [xo_rd_z (by omega) (by decide), Option.bind_some, xo_rd_z (by omega) (by decide), Option.bind_some, h1, h2, zI_mul, zI_mul, zI_sub]
  rfl
theorem e_height {st : XS} {n : Nat} {A B C : Nat → Int} (h : cL st n A B C) (x y w : Int) {s : Nat} (hs : s < n) : F_Pla_height (zI x) (zI y) (zI w) (zI (s : Int)) st = some (zI (gz_h A B C s x y w)) := by
  obtain ⟨-, h6, hl, -⟩ := h
  obtain ⟨h1, h2, h3⟩ := hl s hs
  unfold F_Pla_height
  rw [xo_rd_z (by omega) (by decide), Option.bind_some, xo_rd_z (by omega) (by decide), Option.bind_some, xo_rd_z (by omega) (by decide), Option.bind_some, h1, h2, h3, zI_mul, zI_mul, zI_mul, zI_add, zI_sub]
  rfl
theorem e_sg {t z : Int} (ht : zB t) : (if (0 : Int32) ≤ zI t then some (zI z) else some (-zI z)) = some (zI (gz_sg t * z)) := by
  rw [zI_0]
  unfold gz_sg
  by_cases h : t < 0
  · rw [if_neg (by rw [zI_le (by decide) ht]; omega), if_pos h, zI_neg]; congr 2; omega
  · rw [if_pos (by rw [zI_le (by decide) ht]; omega), if_neg h, Int.one_mul]
theorem e_cX {st : XS} {n : Nat} {A B C : Nat → Int} (h : cL st n A B C) {i j : Nat} (hi : i < n) (hj : j < n) : F_Tow_crossingX (zI (i : Int)) (zI (j : Int)) st = some (zI (gz_X A B C (A i) (B i) (C i) j)) := by
  have ht := e_turn h (A i) (B i) hj
  obtain ⟨-, h6, hl, hb⟩ := h
  obtain ⟨h1, h2, h3⟩ := hl i hi
  obtain ⟨h4, h5, h7⟩ := hl j hj
  have hB := ab_B (gt_ab hb (hb i hi).1 (hb i hi).2.1 hj) (by decide)
  unfold F_Tow_crossingX xo_nm
  simp only [xo_rd_z (show i < 6 by omega) (by decide), xo_rd_z (show j < 6 by omega) (by decide), Option.bind_some, h1, h2, h3, h4, h5, h7, ht, zI_mul, zI_sub]
  rw [e_sg hB]
  rfl
theorem e_cY {st : XS} {n : Nat} {A B C : Nat → Int} (h : cL st n A B C) {i j : Nat} (hi : i < n) (hj : j < n) : F_Tow_crossingY (zI (i : Int)) (zI (j : Int)) st = some (zI (gz_Y A B C (A i) (B i) (C i) j)) := by
  have ht := e_turn h (A i) (B i) hj
  obtain ⟨-, h6, hl, hb⟩ := h
  obtain ⟨h1, h2, h3⟩ := hl i hi
  obtain ⟨h4, h5, h7⟩ := hl j hj
  have hB := ab_B (gt_ab hb (hb i hi).1 (hb i hi).2.1 hj) (by decide)
  unfold F_Tow_crossingY xo_nm
  simp only [xo_rd_z (show i < 6 by omega) (by decide), xo_rd_z (show j < 6 by omega) (by decide), Option.bind_some, h1, h2, h3, h4, h5, h7, ht, zI_mul, zI_sub]
  rw [e_sg hB]
  rfl
theorem e_cW {st : XS} {n : Nat} {A B C : Nat → Int} (h : cL st n A B C) {i j : Nat} (hi : i < n) (hj : j < n) : F_Tow_crossingBelow (zI (i : Int)) (zI (j : Int)) st = some (zI (gz_W A B (A i) (B i) j)) := by
  have ht := e_turn h (A i) (B i) hj
  obtain ⟨-, h6, hl, hb⟩ := h
  obtain ⟨h1, h2, h3⟩ := hl i hi
  have hB := ab_B (gt_ab hb (hb i hi).1 (hb i hi).2.1 hj) (by decide)
  unfold F_Tow_crossingBelow
  simp only [xo_rd_z (show i < 6 by omega) (by decide), Option.bind_some, h1, h2, ht]
  rw [zI_0]
  unfold gz_W gz_sg
  by_cases h : gz_t A B (A i) (B i) j < 0
  · rw [if_neg (by rw [zI_le (by decide) hB]; omega), if_pos h, zI_sub]; congr 2; omega
  · rw [if_pos (by rw [zI_le (by decide) hB]; omega), if_neg h, Int.one_mul]
theorem bm_suc_t {P : Nat → Bool} {s : Nat} (hs : s < 31) (h : P s = true) : zI ((bm P s : Nat) : Int) ||| ((1 : Int32) <<< (zI (s : Int) &&& 31)) = zI ((bm P (s + 1) : Nat) : Int) := by
  rw [zI_bit s (by omega), zI_or, bm, if_pos h]
theorem bm_suc_f {P : Nat → Bool} {s : Nat} (h : P s = false) : bm P (s + 1) = bm P s := by
  rw [bm, h]; simp
theorem e_through {st : XS} {n : Nat} {A B C : Nat → Int} (h : cL st n A B C) {x y w : Int} (hx : ab 1782 x) (hy : ab 1782 y) (hw : ab 162 w) : F_Pla_streetsThrough (zI x) (zI y) (zI w) st = some (zI ((bm (fun s => decide (gz_h A B C s x y w = 0)) n : Nat) : Int)) := by
  unfold F_Pla_streetsThrough
  refine (lp_go (fun i => (zI ((bm (fun s => decide (gz_h A B C s x y w = 0)) i : Nat) : Int), zI (i : Int))) n (zI ((bm (fun s => decide (gz_h A B C s x y w = 0)) n : Nat) : Int)) rfl (by have := h.2.1; omega) (fun i hi => ?_) ?_).trans rfl
  · unfold F_Pla_streetsThrough_b6
    have h6 := h.2.1
    dsimp only
    rw [h.1, if_neg (zI_ge1 (by omega) hi), e_height h x y w hi, Option.bind_some, zI_0]
    have hB := ab_B (gh_ab h.2.2.2 hx hy hw hi) (by decide)
    by_cases he : gz_h A B C i x y w = 0
    · rw [if_pos (by rw [zI_eq hB (by decide)]; exact he), bm_suc_t (by omega) (by simp [he]), zI_suc]; rfl
    · rw [if_neg (by rw [zI_eq hB (by decide)]; exact he), bm_suc_f (by simp [he]), zI_suc]; rfl
  · unfold F_Pla_streetsThrough_b6
    dsimp only
    rw [h.1, if_pos (zI_rfl _)]
theorem e_sides {st : XS} {n : Nat} {A B C : Nat → Int} (h : cL st n A B C) {x y w : Int} (hx : ab 1782 x) (hy : ab 1782 y) (hw : ab 162 w) : F_Pla_sidesOfPoint (zI x) (zI y) (zI w) st = some (zI ((bm (fun s => decide (0 < gz_h A B C s x y w)) n : Nat) : Int)) := by
  unfold F_Pla_sidesOfPoint
  refine (lp_go (fun i => (zI ((bm (fun s => decide (0 < gz_h A B C s x y w)) i : Nat) : Int), zI (i : Int))) n (zI ((bm (fun s => decide (0 < gz_h A B C s x y w)) n : Nat) : Int)) rfl (by have := h.2.1; omega) (fun i hi => ?_) ?_).trans rfl
  · unfold F_Pla_sidesOfPoint_b6
    have h6 := h.2.1
    dsimp only
    rw [h.1, if_neg (zI_ge1 (by omega) hi), e_height h x y w hi, Option.bind_some, zI_0]
    have hB := ab_B (gh_ab h.2.2.2 hx hy hw hi) (by decide)
    by_cases he : 0 < gz_h A B C i x y w
    · rw [if_neg (by rw [zI_le hB (by decide)]; omega), bm_suc_t (by omega) (by simp [he]), zI_suc]; rfl
    · rw [if_pos (by rw [zI_le hB (by decide)]; omega), bm_suc_f (by simp [he]), zI_suc]; rfl
  · unfold F_Pla_sidesOfPoint_b6
    dsimp only
    rw [h.1, if_pos (zI_rfl _)]
theorem e_far {st : XS} {n : Nat} {A B C : Nat → Int} (h : cL st n A B C) {p q g : Int} (hp : ab 9 p) (hq : ab 9 q) (hg : ab 1 g) : F_Pla_sidesFar (zI p) (zI q) (zI g) st = some (zI ((bm (fun s => decide (0 < g * gz_t A B p q s)) n : Nat) : Int)) := by
  unfold F_Pla_sidesFar
  refine (lp_go (fun i => (zI ((bm (fun s => decide (0 < g * gz_t A B p q s)) i : Nat) : Int), zI (i : Int))) n (zI ((bm (fun s => decide (0 < g * gz_t A B p q s)) n : Nat) : Int)) rfl (by have := h.2.1; omega) (fun i hi => ?_) ?_).trans rfl
  · unfold F_Pla_sidesFar_b6
    have h6 := h.2.1
    dsimp only
    rw [h.1, if_neg (zI_ge1 (by omega) hi), e_turn h p q hi, Option.bind_some, zI_0, zI_mul]
    have hB := ab_B (ab_mul hg (gt_ab h.2.2.2 hp hq hi)) (by decide)
    by_cases he : 0 < g * gz_t A B p q i
    · rw [if_neg (by rw [zI_le hB (by decide)]; omega), bm_suc_t (by omega) (by simp [he]), zI_suc]; rfl
    · rw [if_pos (by rw [zI_le hB (by decide)]; omega), bm_suc_f (by simp [he]), zI_suc]; rfl
  · unfold F_Pla_sidesFar_b6
    dsimp only
    rw [h.1, if_pos (zI_rfl _)]
