/-! THE REFERENCE: its small functions -/
def mL (st : XS) (n : Nat) (A B C : Nat → Int) : Prop := n ≤ 7 ∧ (∀ s, s < n → st.1 2 s = zI (A s) ∧ st.1 3 s = zI (B s) ∧ st.1 4 s = zI (C s)) ∧ gB A B C n
theorem mL_of {st t : XS} {n : Nat} {A B C : Nat → Int} (h : mL st n A B C) (e2 : t.1 2 = st.1 2) (e3 : t.1 3 = st.1 3) (e4 : t.1 4 = st.1 4) : mL t n A B C := by
  unfold mL at *
  rw [e2, e3, e4]; exact h
def sg3 (x : Int) : Int := if 0 < x then 1 else if x < 0 then -1 else 0
theorem sg3_B (x : Int) : zB (sg3 x) := by
  unfold sg3; split
  · decide
  · split <;> decide
theorem sg3_0 {x : Int} : sg3 x = 0 ↔ x = 0 := by
  unfold sg3; split
  · omega
  · split <;> omega
theorem sg3_p {x : Int} : 0 < sg3 x ↔ 0 < x := by
  unfold sg3; split
  · omega
  · split <;> omega
theorem sg3_z {x : Int} : (zI (sg3 x) = (0 : Int32)) ↔ x = 0 := by
  rw [zI_0, zI_eq (sg3_B x) (by decide), sg3_0]
theorem sg3_le {x : Int} : (zI (sg3 x) ≤ (0 : Int32)) ↔ ¬ 0 < x := by
  rw [zI_0, zI_le (sg3_B x) (by decide), ← sg3_p]; omega
theorem sg3_if {x : Int} (h : zB x) : (if zI x ≤ (0 : Int32) then if (0 : Int32) ≤ zI x then some (0 : Int32) else some (-1 : Int32) else some (1 : Int32)) = some (zI (sg3 x)) := by
  rw [zI_0]
  unfold sg3
  rcases Int.lt_trichotomy x 0 with q | q | q
  · rw [if_pos (by rw [zI_le h (by decide)]; omega), if_neg (by rw [zI_le (by decide) h]; omega), if_neg (by omega), if_pos q]; rfl
  · subst q
    rw [if_pos (zI_rfl 0), if_pos (zI_rfl 0)]; rfl
  · rw [if_neg (by rw [zI_le h (by decide)]; omega), if_pos q]; rfl
theorem gp_ab {A B C : Nat → Int} {n : Nat} (hb : gB A B C n) {i j s : Nat} (hi : i < n) (hj : j < n) (hs : s < n) : ab 48114 (gz_p A B C i j s) := by
  obtain ⟨h1, h2, h3⟩ := hb i hi
  obtain ⟨bX, bY, bW⟩ := gX_ab hb h1 h2 h3 hj
  exact gh_ab hb bX bY bW hs
theorem e_msoc {st : XS} {n : Nat} {A B C : Nat → Int} (h : mL st n A B C) {s i j : Nat} (hs : s < n) (hi : i < n) (hj : j < n) : F_Mod_sideOfCrossing (zI (s : Int)) (zI (i : Int)) (zI (j : Int)) st = some (zI (sg3 (gz_p A B C i j s))) := by
  obtain ⟨h7, hl, hb⟩ := h
  obtain ⟨s1, s2, s3⟩ := hl s hs
  obtain ⟨i1, i2, i3⟩ := hl i hi
  obtain ⟨j1, j2, j3⟩ := hl j hj
  have hp := gp_ab hb hi hj hs
  have ht := gt_ab hb (hb i hi).1 (hb i hi).2.1 hj
  unfold F_Mod_sideOfCrossing F_Mod_sideOfCrossing_m128
  simp only [xo_rd_z (show s < 7 by omega) (by decide), xo_rd_z (show i < 7 by omega) (by decide), xo_rd_z (show j < 7 by omega) (by decide), Option.bind_some, s1, s2, s3, i1, i2, i3, j1, j2, j3, zI_mul, zI_sub, zI_add, zI_neg, xo_nm_b]
  have e1 : A i * B j - A j * B i = gz_t A B (A i) (B i) j := by unfold gz_t; grind
  rw [e1]
  have e2 : gz_p A B C i j s = gz_sg (gz_t A B (A i) (B i) j) * (A s * (C i * B j - C j * B i) + B s * (A i * C j - A j * C i) - C s * gz_t A B (A i) (B i) j) := by
    unfold gz_p gz_e gz_h gz_X gz_Y gz_W
    generalize gz_sg (gz_t A B (A i) (B i) j) = g
    generalize gz_t A B (A i) (B i) j = t
    grind
  rw [e2] at hp ⊢
  generalize gz_t A B (A i) (B i) j = t at *
  generalize A s * (C i * B j - C j * B i) + B s * (A i * C j - A j * C i) - C s * t = v at *
  have hv : zB v ∧ zB (-v) := by
    unfold ab at hp
    rcases gz_sg_or t with g | g <;> rw [g] at hp <;> (unfold zB; omega)
  unfold gz_sg
  by_cases hc : t < 0
  · rw [if_pos hc, if_neg (by rw [zI_0, zI_le (by decide) (ab_B ht (by decide))]; omega), sg3_if hv.2]
    congr 3; omega
  · rw [if_neg hc, if_pos (by rw [zI_0, zI_le (by decide) (ab_B ht (by decide))]; omega), sg3_if hv.1, Int.one_mul]
theorem e_mside {st : XS} {n : Nat} {A B C : Nat → Int} (h : mL st n A B C) {s : Nat} (hs : s < n) {x y : Int} (hx : ab 20 x) (hy : ab 20 y) : F_Mod_side (zI (s : Int)) (zI x) (zI y) st = some (zI (sg3 (gz_h A B C s x y 1))) := by
  obtain ⟨h7, hl, hb⟩ := h
  obtain ⟨s1, s2, s3⟩ := hl s hs
  have hx2 : ab 1782 x := by unfold ab at *; omega
  have hy2 : ab 1782 y := by unfold ab at *; omega
  have hp := gh_ab hb hx2 hy2 (show ab 162 1 by unfold ab; decide) hs
  unfold F_Mod_side
  rw [xo_rd_z (by omega) (by decide), Option.bind_some, xo_rd_z (by omega) (by decide), Option.bind_some, xo_rd_z (by omega) (by decide), Option.bind_some, s1, s2, s3, zI_mul, zI_mul, zI_add, zI_sub, xo_nm_b]
  have e : A s * x + B s * y - C s = gz_h A B C s x y 1 := by unfold gz_h; omega
  rw [e]
  exact sg3_if (ab_B hp (by decide))
theorem e_malong {st : XS} {n : Nat} {A B C : Nat → Int} (h : mL st n A B C) {s i : Nat} (hs : s < n) (hi : i < n) (w : Bool) : F_Mod_along (zI (s : Int)) (zI (i : Int)) (zI (if w then 1 else 0)) st = some (zI (sg3 ((if w then -1 else 1) * gz_t A B (A i) (B i) s))) := by
  obtain ⟨h7, hl, hb⟩ := h
  obtain ⟨s1, s2, s3⟩ := hl s hs
  obtain ⟨i1, i2, i3⟩ := hl i hi
  have ht := gt_ab hb (hb i hi).1 (hb i hi).2.1 hs
  unfold F_Mod_along F_Mod_along_m38
  simp only [xo_rd_z (show s < 7 by omega) (by decide), xo_rd_z (show i < 7 by omega) (by decide), Option.bind_some, s1, s2, s3, i1, i2, i3, zI_mul, zI_sub, zI_neg, xo_nm_b]
  have e1 : B s * A i - A s * B i = gz_t A B (A i) (B i) s := by unfold gz_t; grind
  rw [e1]
  cases w with
  | true =>
    rw [if_neg (by decide), if_pos rfl, sg3_if (ab_B (ab_neg ht) (by decide))]
    congr 3; omega
  | false =>
    rw [if_pos (show zI (if false = true then 1 else 0) = 0 from rfl), sg3_if (ab_B ht (by decide)), if_neg (by decide), Int.one_mul]
theorem e_misFirst {st : XS} {n : Nat} {A B C : Nat → Int} (h : mL st n A B C) {i j : Nat} (hi : i < j) (hj : j < n) : F_Mod_isFirst (zI (i : Int)) (zI (j : Int)) st = some (zI (if gp_f A B C i j = true then 1 else 0)) := by
  have h7 := h.1
  unfold F_Mod_isFirst
  rw [lp_find (fun k => decide (k ≠ i) && decide (gz_p A B C i j k = 0)) (.inl ()) (.inr ()) j (by omega) (fun k hk => ?_) ?_]
  · rw [Option.bind_some]
    unfold gp_f
    cases an (fun k => decide (k ≠ i) && decide (gz_p A B C i j k = 0)) j <;> rfl
  · unfold F_Mod_isFirst_b2
    rw [if_pos (zI_rfl _)]
  · unfold F_Mod_isFirst_b2
    rw [if_neg (zI_ge1 (by omega) hk), xo_nm_b, zI_suc]
    by_cases e : k = i
    · subst e
      rw [if_pos rfl, if_neg (by simp)]
    · rw [if_neg (by rw [zI_eq (zB_n (by omega)) (zB_n (by omega))]; omega), e_msoc h (by omega) (by omega) hj, Option.bind_some]
      exact cnt_if (by rw [sg3_z]; simp [e]) _ _
theorem e_misDir {st : XS} {n : Nat} {A B C : Nat → Int} (h : mL st n A B C) {p q : Int} (hp : ab 9 p) (hq : ab 9 q) : F_Mod_isDirection (zI p) (zI q) (zI (n : Int)) st = some (zI (if an (fun s => decide (gz_t A B p q s = 0)) n = true then 1 else 0)) := by
  obtain ⟨h7, hl, hb⟩ := h
  unfold F_Mod_isDirection
  rw [lp_find (fun s => decide (gz_t A B p q s = 0)) (.inl ()) (.inr ()) n (by omega) (fun k hk => ?_) ?_]
  · rw [Option.bind_some]
    split <;> rfl
  · unfold F_Mod_isDirection_b3
    rw [if_pos (zI_rfl _)]
  · unfold F_Mod_isDirection_b3
    obtain ⟨s1, s2, s3⟩ := hl k hk
    obtain ⟨b1, b2, b3⟩ := hb k hk
    rw [if_neg (zI_ge1 (by omega) hk), xo_rd_z (by omega) (by decide), Option.bind_some, xo_rd_z (by omega) (by decide), Option.bind_some, s1, s2, zI_mul, zI_mul, xo_nm_b, zI_suc]
    refine cnt_if ?_ _ _
    rw [zI_eq (ab_B (ab_mul b1 hq) (by decide)) (ab_B (ab_mul hp b2) (by decide)), decide_eq_true_eq]
    unfold gz_t
    have : A k * q = q * A k := Int.mul_comm _ _
    omega
theorem e_mhas : ∀ k, k < 128 → ∀ i, i < 7 → F_Mod_has (zI ((k : Nat) : Int)) (zI ((i : Nat) : Int)) = some (zI (if k.testBit i = true then 1 else 0)) := by decide +kernel
theorem e_mwithin {x a b : Int} (hx : zB x) (ha : zB a) (hb : zB b) : F_Mod_within (zI x) (zI a) (zI b) = some (zI (if a ≤ x ∧ x ≤ b then 1 else 0)) := by
  unfold F_Mod_within
  by_cases h1 : x < a
  · rw [if_pos ((zI_lt hx ha).mpr h1), if_neg (by omega)]; rfl
  · rw [if_neg (fun z => h1 ((zI_lt hx ha).mp z))]
    by_cases h2 : b < x
    · rw [if_pos ((zI_lt hb hx).mpr h2), if_neg (by omega)]; rfl
    · rw [if_neg (fun z => h2 ((zI_lt hb hx).mp z)), if_pos (by omega)]; rfl
theorem e_misStreet {st : XS} {n : Nat} (h : st.1 0 0 = zI (n : Int)) (hn : n ≤ 7) {x : Int} (hx : zB x) : F_Mod_isStreet (zI x) st = some (zI (if 0 ≤ x ∧ x < (n : Int) then 1 else 0)) := by
  unfold F_Mod_isStreet
  rw [h, zI_1, zI_sub, zI_0, e_mwithin hx (by decide) ⟨by omega, by omega⟩, Option.bind_some, xo_cb_b, Option.bind_some]
  congr 2
  by_cases hc : 0 ≤ x ∧ x < (n : Int)
  · rw [if_pos hc, if_pos (by omega)]
  · rw [if_neg hc, if_neg (by omega)]
theorem e_misPlot {st : XS} {P : Nat} (h : st.1 0 5 = zI (P : Int)) (hn : P ≤ 8) {x : Int} (hx : zB x) : F_Mod_isPlot (zI x) st = some (zI (if 0 ≤ x ∧ x < (P : Int) then 1 else 0)) := by
  unfold F_Mod_isPlot
  rw [h, zI_1, zI_sub, zI_0, e_mwithin hx (by decide) ⟨by omega, by omega⟩, Option.bind_some, xo_cb_b, Option.bind_some]
  congr 2
  by_cases hc : 0 ≤ x ∧ x < (P : Int)
  · rw [if_pos hc, if_pos (by omega)]
  · rw [if_neg hc, if_neg (by omega)]
