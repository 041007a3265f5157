/-! REGIONS: sides that some point sees -/
def gz_ok (a b : Nat → Int) (n : Nat) : Prop := (∀ s, s < n → a s ≠ 0 ∨ b s ≠ 0) ∧ ∀ i j, i < n → j < n → i ≠ j → gz_t a b (a i) (b i) j ≠ 0
def gz_reg (a b c : Nat → Int) (n : Nat) (T : Nat → Prop) (m : Nat) : Prop := ∃ x y w : Int, 0 < w ∧ ∀ s, s < n → T s → gz_h a b c s x y w ≠ 0 ∧ (m.testBit s = true ↔ 0 < gz_h a b c s x y w)
theorem gz_t_self (a b : Nat → Int) (i : Nat) : gz_t a b (a i) (b i) i = 0 := by unfold gz_t; grind
theorem gz_ok_z {a b c : Nat → Int} {n : Nat} (h : gz_ok a b n) {k : Nat} (hk : k < n) : ∀ t, t < n → gz_t a b (a k) (b k) t = 0 → a t = a k ∧ b t = b k ∧ c t = c k := by
  intro t ht he
  by_cases e : k = t
  · subst e; exact ⟨rfl, rfl, rfl⟩
  · exact absurd he (h.2 k t hk ht e)
/-- off the line to either side, so little that no other side changes -/
theorem gz_push {a b c : Nat → Int} {n : Nat} {x y w p q r : Int} (hw : 0 < w) (hpq : p ≠ 0 ∨ q ≠ 0) (hL : p * x + q * y = r * w) (g : Int) (hg : g = 1 ∨ g = -1) :
    ∃ x2 y2 w2 : Int, 0 < w2 ∧ 0 < g * (p * x2 + q * y2 - r * w2) ∧ ∀ t, t < n → gz_h a b c t x y w ≠ 0 → 0 < gz_h a b c t x y w * gz_h a b c t x2 y2 w2 := by
  obtain ⟨N, hN, hNs⟩ := gz_N (fun t => g * gz_h a b c t p q 0) n
  refine ⟨N * x + g * p, N * y + g * q, N * w + g * 0, ?_, ?_, fun t ht hne => ?_⟩
  · have := Int.mul_pos hN hw; omega
  · have h1 := gz_nz hpq
    have e : p * (N * x + g * p) + q * (N * y + g * q) - r * (N * w + g * 0) = N * (p * x + q * y - r * w) + g * (p * p + q * q) := by grind
    rw [e, show p * x + q * y - r * w = 0 by omega]
    rcases hg with rfl | rfl <;> omega
  · rw [gz_lin]
    exact gz_big (gz_sq hne) (hNs t ht).1 (hNs t ht).2
/-- q with the bit k put out -/
def gz_off (q k : Nat) : Nat := if q.testBit k then q ^^^ 2 ^ k else q
theorem gz_off_bit (q k t : Nat) : (gz_off q k).testBit t = (decide (t ≠ k) && q.testBit t) := by
  unfold gz_off
  by_cases hk : q.testBit k = true
  · rw [if_pos hk, Nat.testBit_xor, Nat.testBit_two_pow]
    by_cases h : k = t
    · subst h; simp [hk]
    · have h' : t ≠ k := fun e => h e.symm
      simp [h, h']
  · rw [if_neg hk]
    by_cases h : t = k
    · subst h; simp [hk]
    · simp [h]
theorem gz_reg_cut {a b c : Nat → Int} {n : Nat} (hok : gz_ok a b n) (hn : 0 < n) {q : Nat} (h : gz_reg a b c n (fun _ => True) q) : ∃ k, k < n ∧ gz_cut a b c n (a k) (b k) (c k) (gz_off q k) := by
  obtain ⟨x, y, w, hw, hX⟩ := h
  obtain ⟨k, x2, y2, w2, hk, -, hw2, hz, hs⟩ := gz_adj (T := fun _ => True) hw n (fun s hs _ => hok.1 s hs) (fun i j hi hj hij _ _ => hok.2 i j hi hj hij) (fun s hs _ => (hX s hs trivial).1) ⟨0, hn, trivial⟩
  refine ⟨k, hk, gz_on_cut (gz_ok_z hok hk) ⟨x2, y2, w2, hw2, ?_, fun t ht => ⟨fun hne => ?_, fun he => ?_⟩⟩⟩
  · unfold gz_h at hz; omega
  · have htk : t ≠ k := fun e => by subst e; exact hne (gz_t_self a b t)
    obtain ⟨h1, -, h3⟩ := gz_same (hs t ht trivial htk)
    refine ⟨h1, ?_⟩
    rw [gz_off_bit, h3, ← (hX t ht trivial).2]
    simp [htk]
  · have htk : t = k := by
      by_cases e : k = t
      · exact e.symm
      · exact absurd he (hok.2 k t hk ht e)
    subst htk
    rw [gz_off_bit]; simp
theorem gz_cut_reg {a b c : Nat → Int} {n : Nat} (hok : gz_ok a b n) {k : Nat} (hk : k < n) {m q : Nat} (h : gz_cut a b c n (a k) (b k) (c k) m) (hm : ∀ t, t < n → t ≠ k → m.testBit t = q.testBit t) : gz_reg a b c n (fun _ => True) q := by
  obtain ⟨x, y, w, hw, hL, hZ⟩ := gz_cut_on (hok.1 k hk) (gz_ok_z hok hk) h
  obtain ⟨g, hg, hgq⟩ : ∃ g : Int, (g = 1 ∨ g = -1) ∧ (g = 1 ↔ q.testBit k = true) := by
    cases q.testBit k with
    | true => exact ⟨1, Or.inl rfl, by simp⟩
    | false => exact ⟨-1, Or.inr rfl, by simp⟩
  obtain ⟨x2, y2, w2, hw2, hk2, h2⟩ := gz_push (a := a) (b := b) (c := c) (n := n) hw (hok.1 k hk) hL g hg
  refine ⟨x2, y2, w2, hw2, fun s hs _ => ?_⟩
  by_cases hsk : s = k
  · subst hsk
    have e : gz_h a b c s x2 y2 w2 = a s * x2 + b s * y2 - c s * w2 := rfl
    rw [e, ← hgq]
    rcases hg with rfl | rfl <;> constructor <;> omega
  · have hne := hok.2 k s hk hs (fun e => hsk e.symm)
    obtain ⟨h3, h4⟩ := (hZ s hs).1 hne
    obtain ⟨h5, -, h6⟩ := gz_same (h2 s hs h3)
    refine ⟨h5, ?_⟩
    rw [← hm s hs hsk, h4, h6]
/-- the quarters that a new line cuts: those with a point on either side of it -/
theorem gz_new_iff {a b c : Nat → Int} {n : Nat} {p q r : Int} (hpq : p ≠ 0 ∨ q ≠ 0) (hne : ∀ t, t < n → gz_t a b p q t ≠ 0) {m : Nat} :
    gz_cut a b c n p q r m ↔ (∃ x y w : Int, 0 < w ∧ p * x + q * y - r * w < 0 ∧ ∀ s, s < n → gz_h a b c s x y w ≠ 0 ∧ (m.testBit s = true ↔ 0 < gz_h a b c s x y w)) ∧ (∃ x y w : Int, 0 < w ∧ 0 < p * x + q * y - r * w ∧ ∀ s, s < n → gz_h a b c s x y w ≠ 0 ∧ (m.testBit s = true ↔ 0 < gz_h a b c s x y w)) := by
  have hz : ∀ t, t < n → gz_t a b p q t = 0 → a t = p ∧ b t = q ∧ c t = r := fun t ht he => absurd he (hne t ht)
  constructor
  · intro h
    obtain ⟨x, y, w, hw, hL, hZ⟩ := gz_cut_on hpq hz h
    obtain ⟨x1, y1, w1, hw1, hk1, h1⟩ := gz_push (a := a) (b := b) (c := c) (n := n) hw hpq hL (-1) (Or.inr rfl)
    obtain ⟨x2, y2, w2, hw2, hk2, h2⟩ := gz_push (a := a) (b := b) (c := c) (n := n) hw hpq hL 1 (Or.inl rfl)
    refine ⟨⟨x1, y1, w1, hw1, by omega, fun s hs => ?_⟩, ⟨x2, y2, w2, hw2, by omega, fun s hs => ?_⟩⟩
    · obtain ⟨h3, h4⟩ := (hZ s hs).1 (hne s hs)
      obtain ⟨h5, -, h6⟩ := gz_same (h1 s hs h3)
      exact ⟨h5, by rw [h4, h6]⟩
    · obtain ⟨h3, h4⟩ := (hZ s hs).1 (hne s hs)
      obtain ⟨h5, -, h6⟩ := gz_same (h2 s hs h3)
      exact ⟨h5, by rw [h4, h6]⟩
  · rintro ⟨⟨x, y, w, hw, hl, hX⟩, ⟨x2, y2, w2, hw2, hl2, hY⟩⟩
    generalize hA : p * x + q * y - r * w = A at hl
    generalize hB : p * x2 + q * y2 - r * w2 = B at hl2
    refine gz_on_cut hz ⟨B * x + (-A) * x2, B * y + (-A) * y2, B * w + (-A) * w2, ?_, ?_, fun t ht => ⟨fun _ => ?_, fun he => absurd he (hne t ht)⟩⟩
    · have := Int.mul_pos hl2 hw; have := Int.mul_pos (show 0 < -A by omega) hw2; omega
    · grind
    · rw [gz_lin]
      obtain ⟨h1, h2⟩ := hX t ht
      obtain ⟨h3, h4⟩ := hY t ht
      rw [h2]
      rw [h2] at h4
      generalize gz_h a b c t x y w = u at *
      generalize gz_h a b c t x2 y2 w2 = v at *
      rcases Int.lt_or_gt_of_ne h1 with q1 | q1
      · have hv : v < 0 := by omega
        have := Int.mul_neg_of_pos_of_neg hl2 q1
        have := Int.mul_neg_of_pos_of_neg (show 0 < -A by omega) hv
        omega
      · have hv : 0 < v := by omega
        have := Int.mul_pos hl2 q1
        have := Int.mul_pos (show 0 < -A by omega) hv
        omega
/-! how the reference finds them: ends of lines, and about points -/
def gz_p (a b c : Nat → Int) (i j t : Nat) : Int := gz_e a b c (a i) (b i) (c i) j t
def gz_end (a b : Nat → Int) (n q : Nat) : Prop := ∃ i, i < n ∧ ∃ g : Int, (g = 1 ∨ g = -1) ∧ ∀ t, t < n → t ≠ i → (q.testBit t = true ↔ 0 < g * gz_t a b (a i) (b i) t)
def gz_fst (a b c : Nat → Int) (i j : Nat) : Prop := ∀ k, k < j → k ≠ i → gz_p a b c i j k ≠ 0
def gz_agr (a b c : Nat → Int) (n i j q : Nat) : Prop := ∀ t, t < n → gz_p a b c i j t ≠ 0 → (q.testBit t = true ↔ 0 < gz_p a b c i j t)
def gz_abt (a b c : Nat → Int) (n i j q : Nat) : Prop := ∃ k, k < n ∧ gz_p a b c i j k = 0 ∧ ∃ g : Int, (g = 1 ∨ g = -1) ∧ ∀ t, t < n → t ≠ k → gz_p a b c i j t = 0 → (q.testBit t = true ↔ 0 < g * gz_t a b (a k) (b k) t)
theorem gz_p_i (a b c : Nat → Int) (i j : Nat) : gz_p a b c i j i = 0 := gz_e_line ⟨rfl, rfl, rfl⟩
theorem gz_p_j (a b c : Nat → Int) (i j : Nat) : gz_p a b c i j j = 0 := gz_e_s a b c _ _ _ j
/-- a point on two lines is their crossing -/
theorem gz_point {a b c : Nat → Int} {i j : Nat} {x y w : Int} (hi : gz_h a b c i x y w = 0) (hj : gz_h a b c j x y w = 0) (t : Nat) : w * gz_p a b c i j t = gz_W a b (a i) (b i) j * gz_h a b c t x y w := by
  have h := gz_meet (a := a) (b := b) (c := c) (p := a i) (q := b i) (r := c i) (x := x) (y := y) (w := w) (by unfold gz_h at hi; omega) j t
  rw [hj, Int.mul_zero, Int.zero_mul, Int.add_zero] at h
  exact h
theorem gz_e_h (a b c : Nat → Int) (p q r : Int) (s t : Nat) : gz_h a b c t (gz_X a b c p q r s) (gz_Y a b c p q r s) (gz_W a b p q s) = gz_e a b c p q r s t := rfl
/-- the first two lines that meet where k and s meet -/
theorem gz_firsts {a b c : Nat → Int} {n : Nat} (hok : gz_ok a b n) {k s : Nat} (hk : k < n) (hs : s < n) (hks : k ≠ s) : ∃ i j, i < j ∧ j < n ∧ gz_fst a b c i j ∧ ∀ t, (gz_p a b c i j t = 0 ↔ gz_p a b c k s t = 0) ∧ (0 < gz_p a b c i j t ↔ 0 < gz_p a b c k s t) := by
  have hW := gz_W_pos (hok.2 k s hk hs hks)
  obtain ⟨i, hiz, him⟩ := pk_least (fun t => gz_p a b c k s t = 0) ⟨k, gz_p_i a b c k s⟩
  have hik : i ≤ k := Nat.le_of_not_lt fun h => him k h (gz_p_i a b c k s)
  have his : i ≤ s := Nat.le_of_not_lt fun h => him s h (gz_p_j a b c k s)
  obtain ⟨j, ⟨hij, hjz⟩, hjm⟩ := pk_least (fun t => i < t ∧ gz_p a b c k s t = 0) (by
    by_cases e : i = k
    · exact ⟨s, by omega, gz_p_j a b c k s⟩
    · exact ⟨k, by omega, gz_p_i a b c k s⟩)
  have hjn : j < n := by
    by_cases e : i = k
    · exact Nat.lt_of_le_of_lt (Nat.le_of_not_lt fun h => hjm s h ⟨by omega, gz_p_j a b c k s⟩) hs
    · exact Nat.lt_of_le_of_lt (Nat.le_of_not_lt fun h => hjm k h ⟨by omega, gz_p_i a b c k s⟩) hk
  have hWij := gz_W_pos (hok.2 i j (by omega) hjn (by omega))
  have hrel : ∀ t, (gz_p a b c i j t = 0 ↔ gz_p a b c k s t = 0) ∧ (0 < gz_p a b c i j t ↔ 0 < gz_p a b c k s t) := by
    intro t
    have h := gz_point (a := a) (b := b) (c := c) (i := i) (j := j) hiz hjz t
    rw [gz_e_h] at h
    have e : gz_e a b c (a k) (b k) (c k) s t = gz_p a b c k s t := rfl
    rw [e] at h
    generalize gz_p a b c i j t = u at *
    generalize gz_p a b c k s t = v at *
    generalize gz_W a b (a k) (b k) s = W1 at *
    generalize gz_W a b (a i) (b i) j = W2 at *
    rcases Int.lt_trichotomy u 0 with q | q | q
    · have h1 := Int.mul_neg_of_pos_of_neg hW q
      rcases Int.lt_trichotomy v 0 with r | r | r
      · omega
      · rw [r, Int.mul_zero] at h; omega
      · have := Int.mul_pos hWij r; omega
    · rw [q, Int.mul_zero] at h
      rcases Int.mul_eq_zero.mp h.symm with h | h <;> omega
    · have h1 := Int.mul_pos hW q
      rcases Int.lt_trichotomy v 0 with r | r | r
      · have := Int.mul_neg_of_pos_of_neg hWij r; omega
      · rw [r, Int.mul_zero] at h; omega
      · omega
  refine ⟨i, j, hij, hjn, fun t ht hti => ?_, hrel⟩
  rw [Ne, (hrel t).1]
  intro hz
  rcases Nat.lt_or_ge t i with q | q
  · exact him t q hz
  · exact hjm t ht ⟨by omega, hz⟩
theorem gz_reg_ref {a b c : Nat → Int} {n : Nat} (hok : gz_ok a b n) (hn : 0 < n) {q : Nat} (h : gz_reg a b c n (fun _ => True) q) : gz_end a b n q ∨ ∃ i j, i < j ∧ j < n ∧ gz_fst a b c i j ∧ gz_agr a b c n i j q ∧ gz_abt a b c n i j q := by
  obtain ⟨k, hk, hc⟩ := gz_reg_cut hok hn h
  have hbit : ∀ t, t ≠ k → (gz_off q k).testBit t = q.testBit t := fun t ht => by rw [gz_off_bit]; simp [ht]
  rcases hc with hc | ⟨s, hs, hts, hc⟩
  · refine Or.inl ⟨k, hk, 1, Or.inl rfl, fun t ht htk => ?_⟩
    rw [← hbit t htk, hc t ht, Int.one_mul]
  · have hks : k ≠ s := fun e => by subst e; exact hts (gz_t_self a b k)
    obtain ⟨i, j, hij, hj, hf, hrel⟩ := gz_firsts (c := c) hok hk hs hks
    refine Or.inr ⟨i, j, hij, hj, hf, fun t ht hne => ?_, k, hk, (hrel k).1.mpr (gz_p_i a b c k s), -1, Or.inr rfl, fun t ht htk hz => ?_⟩
    · have hne2 : gz_p a b c k s t ≠ 0 := fun e => hne ((hrel t).1.mpr e)
      have htk : t ≠ k := fun e => by subst e; exact hne2 (gz_p_i a b c t s)
      rw [← hbit t htk, hc t ht, (hrel t).2]
      exact ⟨fun z => z.elim id (fun z => absurd z.1 hne2), fun z => Or.inl z⟩
    · have hz2 : gz_e a b c (a k) (b k) (c k) s t = 0 := (hrel t).1.mp hz
      rw [← hbit t htk, hc t ht, hz2]
      constructor <;> omega
theorem gz_ref_reg {a b c : Nat → Int} {n : Nat} (hok : gz_ok a b n) {q : Nat} (h : gz_end a b n q ∨ ∃ i j, i < j ∧ j < n ∧ gz_agr a b c n i j q ∧ gz_abt a b c n i j q) : gz_reg a b c n (fun _ => True) q := by
  -- a point on line k that the others see as q says
  have key : ∀ (k : Nat) (x y w : Int), k < n → 0 < w → gz_h a b c k x y w = 0 → (∀ t, t < n → t ≠ k → gz_h a b c t x y w ≠ 0 ∧ (q.testBit t = true ↔ 0 < gz_h a b c t x y w)) → gz_reg a b c n (fun _ => True) q := by
    intro k x y w hk hw hz hZ
    obtain ⟨g, hg, hgq⟩ : ∃ g : Int, (g = 1 ∨ g = -1) ∧ (g = 1 ↔ q.testBit k = true) := by
      cases q.testBit k with
      | true => exact ⟨1, Or.inl rfl, by simp⟩
      | false => exact ⟨-1, Or.inr rfl, by simp⟩
    obtain ⟨x2, y2, w2, hw2, hk2, h2⟩ := gz_push (a := a) (b := b) (c := c) (n := n) (x := x) (y := y) (p := a k) (q := b k) (r := c k) hw (hok.1 k hk) (by unfold gz_h at hz; omega) g hg
    refine ⟨x2, y2, w2, hw2, fun s hs _ => ?_⟩
    by_cases hsk : s = k
    · subst hsk
      have e : gz_h a b c s x2 y2 w2 = a s * x2 + b s * y2 - c s * w2 := rfl
      rw [e, ← hgq]
      rcases hg with rfl | rfl <;> constructor <;> omega
    · obtain ⟨h3, h4⟩ := hZ s hs hsk
      obtain ⟨h5, -, h6⟩ := gz_same (h2 s hs h3)
      exact ⟨h5, by rw [h4, h6]⟩
  rcases h with ⟨k, hk, g, hg, hq⟩ | ⟨i, j, hij, hj, ha, k, hk, hkz, g, hg, hq⟩
  · obtain ⟨N, hN, hNs⟩ := gz_N (fun t => gz_h a b c t (a k * c k) (b k * c k) (a k * a k + b k * b k)) n
    have hval : ∀ t, gz_h a b c t (N * (g * -(b k)) + 1 * (a k * c k)) (N * (g * a k) + 1 * (b k * c k)) (N * (g * 0) + 1 * (a k * a k + b k * b k)) = N * (g * gz_t a b (a k) (b k) t) + gz_h a b c t (a k * c k) (b k * c k) (a k * a k + b k * b k) := fun t => by
      rw [gz_lin]
      have e : gz_h a b c t (g * -(b k)) (g * a k) (g * 0) = g * gz_t a b (a k) (b k) t := by unfold gz_h gz_t; grind
      rw [e]; omega
    refine key k (N * (g * -(b k)) + 1 * (a k * c k)) (N * (g * a k) + 1 * (b k * c k)) (N * (g * 0) + 1 * (a k * a k + b k * b k)) hk ?_ ?_ (fun t ht htk => ?_)
    · have := gz_nz (hok.1 k hk)
      have e : N * (g * 0) = 0 := by simp
      omega
    · rw [hval, gz_t_self, gz_foot]; simp
    · rw [hval, hq t ht htk]
      have hne : g * gz_t a b (a k) (b k) t ≠ 0 := Int.mul_ne_zero (by rcases hg with rfl | rfl <;> decide) (hok.2 k t hk ht (fun e => htk e.symm))
      obtain ⟨h1, -, h3⟩ := gz_same (gz_big (gz_sq hne) (hNs t ht).1 (hNs t ht).2)
      exact ⟨h1, h3.symm⟩
  · have hW := gz_W_pos (hok.2 i j (by omega) hj (by omega))
    obtain ⟨N, hN, hNs⟩ := gz_N (fun t => g * gz_t a b (a k) (b k) t) n
    have hval : ∀ t, gz_h a b c t (N * gz_X a b c (a i) (b i) (c i) j + g * -(b k)) (N * gz_Y a b c (a i) (b i) (c i) j + g * a k) (N * gz_W a b (a i) (b i) j + g * 0) = N * gz_p a b c i j t + g * gz_t a b (a k) (b k) t := fun t => by rw [gz_lin, gz_dir]; rfl
    refine key k (N * gz_X a b c (a i) (b i) (c i) j + g * -(b k)) (N * gz_Y a b c (a i) (b i) (c i) j + g * a k) (N * gz_W a b (a i) (b i) j + g * 0) hk ?_ ?_ (fun t ht htk => ?_)
    · have := Int.mul_pos hN hW
      have e : g * 0 = 0 := by simp
      omega
    · rw [hval, gz_t_self, hkz]; simp
    · rw [hval]
      have hne : g * gz_t a b (a k) (b k) t ≠ 0 := Int.mul_ne_zero (by rcases hg with rfl | rfl <;> decide) (hok.2 k t hk ht (fun e => htk e.symm))
      by_cases hz : gz_p a b c i j t = 0
      · rw [hq t ht htk hz, hz]
        have e : N * 0 + g * gz_t a b (a k) (b k) t = g * gz_t a b (a k) (b k) t := by simp
        rw [e]
        exact ⟨hne, Iff.rfl⟩
      · rw [ha t ht hz]
        obtain ⟨h1, -, h3⟩ := gz_same (gz_big (gz_sq hz) (hNs t ht).1 (hNs t ht).2)
        exact ⟨h1, h3.symm⟩
/-- a quarter that agrees with a point off its lines lies about it -/
theorem gz_about {a b c : Nat → Int} {n : Nat} (hok : gz_ok a b n) {q i j : Nat} (h : gz_reg a b c n (fun _ => True) q) (hij : i < j) (hj : j < n) : gz_abt a b c n i j q := by
  obtain ⟨x, y, w, hw, hX⟩ := h
  obtain ⟨k, x2, y2, w2, hk, hkz, hw2, hz, hs⟩ := gz_adj (T := fun t => gz_p a b c i j t = 0) hw n (fun s hs _ => hok.1 s hs) (fun i j hi hj hij _ _ => hok.2 i j hi hj hij) (fun s hs _ => (hX s hs trivial).1) ⟨i, by omega, gz_p_i a b c i j⟩
  have hW := gz_W_pos (hok.2 i j (by omega) hj (by omega))
  have hk0 := gz_nz (hok.1 k hk)
  -- Z less the point goes along k
  obtain ⟨mu, hmu⟩ : ∃ mu : Int, ∀ t, gz_p a b c i j t = 0 → (a k * a k + b k * b k) * (gz_W a b (a i) (b i) j * gz_h a b c t x2 y2 w2) = mu * gz_t a b (a k) (b k) t := by
    generalize hPx : gz_X a b c (a i) (b i) (c i) j = X0
    generalize hPy : gz_Y a b c (a i) (b i) (c i) j = Y0
    generalize hPw : gz_W a b (a i) (b i) j = W0
    have hp : ∀ t, gz_p a b c i j t = gz_h a b c t X0 Y0 W0 := fun t => by rw [← hPx, ← hPy, ← hPw]; rfl
    refine ⟨a k * (W0 * y2 - w2 * Y0) - b k * (W0 * x2 - w2 * X0), fun t ht => ?_⟩
    rw [hp] at ht
    have hkz2 := hkz
    rw [hp] at hkz2
    unfold gz_h at ht hkz2 hz ⊢
    unfold gz_t
    have e1 : a k * (W0 * x2 - w2 * X0) + b k * (W0 * y2 - w2 * Y0) = 0 := by grind
    have e2 : W0 * (a t * x2 + b t * y2 - c t * w2) = a t * (W0 * x2 - w2 * X0) + b t * (W0 * y2 - w2 * Y0) := by grind
    rw [e2]
    generalize W0 * x2 - w2 * X0 = U at *
    generalize W0 * y2 - w2 * Y0 = V at *
    grind
  have hmu0 : mu ≠ 0 := by
    intro e
    obtain ⟨t, ht, htk, htz⟩ : ∃ t, t < n ∧ t ≠ k ∧ gz_p a b c i j t = 0 := by
      by_cases e2 : i = k
      · exact ⟨j, hj, by omega, gz_p_j a b c i j⟩
      · exact ⟨i, by omega, e2, gz_p_i a b c i j⟩
    have h1 := hmu t htz
    rw [e] at h1
    have h2 := (gz_same (hs t ht htz htk)).1
    have h3 : (a k * a k + b k * b k) * (gz_W a b (a i) (b i) j * gz_h a b c t x2 y2 w2) ≠ 0 := Int.mul_ne_zero (by omega) (Int.mul_ne_zero (by omega) h2)
    rw [Int.zero_mul] at h1
    exact h3 h1
  refine ⟨k, hk, hkz, gz_sg mu, gz_sg_or mu, fun t ht htk htz => ?_⟩
  obtain ⟨h1, -, h3⟩ := gz_same (hs t ht htz htk)
  rw [(hX t ht trivial).2, ← h3]
  have h4 := hmu t htz
  have h5 := gz_sg_pos hmu0
  generalize gz_h a b c t x2 y2 w2 = z at *
  generalize gz_t a b (a k) (b k) t = τ at *
  generalize hM : (a k * a k + b k * b k) = M at *
  generalize gz_W a b (a i) (b i) j = W0 at *
  have h6 : 0 < z ↔ 0 < mu * τ := by
    rw [← h4]
    constructor
    · intro hz0; exact Int.mul_pos hk0 (Int.mul_pos hW hz0)
    · intro hp
      have h7 := ((gz_same hp).2.2).mpr hk0
      exact ((gz_same h7).2.2).mpr hW
  rw [h6]
  rcases gz_sg_or mu with g | g <;> rw [g] at h5 ⊢
  · have hm : 0 < mu := by omega
    rw [Int.one_mul]
    constructor
    · intro hp; exact ((gz_same hp).2.2).mpr hm
    · intro hp; exact Int.mul_pos hm hp
  · have hm : mu < 0 := by omega
    constructor
    · intro hp
      rcases Int.lt_trichotomy τ 0 with r | r | r
      · omega
      · rw [r] at hp; simp at hp
      · have := Int.mul_neg_of_neg_of_pos hm r; omega
    · intro hp; exact Int.mul_pos_of_neg_of_neg hm (by omega)
/-- without some of the lines: the regions are those of the rest -/
theorem gz_less {a b c : Nat → Int} {n : Nat} (hok : gz_ok a b n) {k : Nat} (hk : k < n) {m : Nat} (h : gz_reg a b c n (fun t => t ≠ k) m) : ∃ q, (∀ t, t ≠ k → q.testBit t = m.testBit t) ∧ gz_reg a b c n (fun _ => True) q := by
  obtain ⟨x, y, w, hw, hX⟩ := h
  have done : ∀ (x2 y2 w2 : Int), 0 < w2 → gz_h a b c k x2 y2 w2 ≠ 0 → (∀ s, s < n → s ≠ k → gz_h a b c s x2 y2 w2 ≠ 0 ∧ (m.testBit s = true ↔ 0 < gz_h a b c s x2 y2 w2)) → ∃ q, (∀ t, t ≠ k → q.testBit t = m.testBit t) ∧ gz_reg a b c n (fun _ => True) q := by
    intro x2 y2 w2 hw2 hk2 h2
    by_cases hp : 0 < gz_h a b c k x2 y2 w2
    · refine ⟨gz_off m k ||| 2 ^ k, fun t ht => ?_, x2, y2, w2, hw2, fun s hs _ => ?_⟩
      · rw [Nat.testBit_or, Nat.testBit_two_pow, gz_off_bit]
        have : k ≠ t := fun e => ht e.symm
        simp [ht, this]
      · by_cases hsk : s = k
        · subst hsk
          rw [Nat.testBit_or, Nat.testBit_two_pow]
          simp [hk2, hp]
        · rw [Nat.testBit_or, Nat.testBit_two_pow, gz_off_bit]
          have : k ≠ s := fun e => hsk e.symm
          simpa [hsk, this] using h2 s hs hsk
    · refine ⟨gz_off m k, fun t ht => ?_, x2, y2, w2, hw2, fun s hs _ => ?_⟩
      · rw [gz_off_bit]; simp [ht]
      · by_cases hsk : s = k
        · subst hsk
          rw [gz_off_bit]
          simp [hk2, hp]
        · rw [gz_off_bit]
          simpa [hsk] using h2 s hs hsk
  by_cases hz : gz_h a b c k x y w = 0
  · obtain ⟨x2, y2, w2, hw2, hk2, h2⟩ := gz_push (a := a) (b := b) (c := c) (n := n) (x := x) (y := y) (p := a k) (q := b k) (r := c k) hw (hok.1 k hk) (by unfold gz_h at hz; omega) 1 (Or.inl rfl)
    refine done x2 y2 w2 hw2 (by unfold gz_h; omega) (fun s hs hsk => ?_)
    obtain ⟨h3, h4⟩ := hX s hs hsk
    obtain ⟨h5, -, h6⟩ := gz_same (h2 s hs h3)
    exact ⟨h5, by rw [h4, h6]⟩
  · exact done x y w hw hz (fun s hs hsk => hX s hs hsk)
