/-! CUTS: the sides that one sees along a told line (p, q, r) -/
/-- the sign of a whole number, 1 or -1 -/
def gz_sg (x : Int) : Int := if x < 0 then -1 else 1
theorem gz_sg_pos {x : Int} (h : x ≠ 0) : 0 < gz_sg x * x := by
  unfold gz_sg; split <;> omega
theorem gz_sg_or (x : Int) : gz_sg x = 1 ∨ gz_sg x = -1 := by
  unfold gz_sg; split
  · exact Or.inr rfl
  · exact Or.inl rfl
/-- where the line (p, q, r) crosses street s; above 0 last -/
def gz_X (a b c : Nat → Int) (p q r : Int) (s : Nat) : Int := gz_sg (gz_t a b p q s) * (r * b s - q * c s)
def gz_Y (a b c : Nat → Int) (p q r : Int) (s : Nat) : Int := gz_sg (gz_t a b p q s) * (p * c s - r * a s)
def gz_W (a b : Nat → Int) (p q : Int) (s : Nat) : Int := gz_sg (gz_t a b p q s) * gz_t a b p q s
/-- how far the crossing of the line with s lies on side 1 of t -/
def gz_e (a b c : Nat → Int) (p q r : Int) (s t : Nat) : Int := gz_h a b c t (gz_X a b c p q r s) (gz_Y a b c p q r s) (gz_W a b p q s)
theorem gz_e_s (a b c : Nat → Int) (p q r : Int) (s : Nat) : gz_e a b c p q r s s = 0 := by
  unfold gz_e gz_h gz_X gz_Y gz_W gz_t
  generalize gz_sg (p * b s - q * a s) = g
  grind
theorem gz_e_line {a b c : Nat → Int} {p q r : Int} {s k : Nat} (h : a k = p ∧ b k = q ∧ c k = r) : gz_e a b c p q r s k = 0 := by
  obtain ⟨h1, h2, h3⟩ := h
  unfold gz_e gz_h gz_X gz_Y gz_W gz_t
  rw [h1, h2, h3]
  generalize gz_sg (p * b s - q * a s) = g
  grind
theorem gz_W_pos {a b : Nat → Int} {p q : Int} {s : Nat} (h : gz_t a b p q s ≠ 0) : 0 < gz_W a b p q s := gz_sg_pos h
theorem gz_onL (a b c : Nat → Int) (p q r : Int) (s : Nat) : p * gz_X a b c p q r s + q * gz_Y a b c p q r s = r * gz_W a b p q s := by
  unfold gz_X gz_Y gz_W gz_t
  generalize gz_sg (p * b s - q * a s) = g
  grind
/-- a point Z of the line, and the crossing with s, measured from t -/
theorem gz_meet {a b c : Nat → Int} {p q r x y w : Int} (hL : p * x + q * y = r * w) (s t : Nat) :
    w * gz_e a b c p q r s t = gz_W a b p q s * gz_h a b c t x y w + (-(gz_sg (gz_t a b p q s)) * gz_h a b c s x y w) * gz_t a b p q t := by
  unfold gz_e gz_X gz_Y gz_W
  generalize gz_sg (gz_t a b p q s) = g
  have e1 : w * (r * b s - q * c s) = gz_t a b p q s * x + gz_h a b c s x y w * q := by unfold gz_t gz_h; grind
  have e2 : w * (p * c s - r * a s) = gz_t a b p q s * y - gz_h a b c s x y w * p := by unfold gz_t gz_h; grind
  have e3 : w * gz_h a b c t (g * (r * b s - q * c s)) (g * (p * c s - r * a s)) (g * gz_t a b p q s) = a t * (g * (w * (r * b s - q * c s))) + b t * (g * (w * (p * c s - r * a s))) - c t * (g * (w * gz_t a b p q s)) := by
    generalize gz_t a b p q s = k
    unfold gz_h; grind
  rw [e3, e1, e2]
  generalize gz_t a b p q s = k
  generalize gz_h a b c s x y w = z
  unfold gz_h gz_t
  grind
def gz_cut (a b c : Nat → Int) (n : Nat) (p q r : Int) (m : Nat) : Prop :=
  (∀ t, t < n → (m.testBit t = true ↔ 0 < gz_t a b p q t)) ∨ ∃ s, s < n ∧ gz_t a b p q s ≠ 0 ∧ ∀ t, t < n → (m.testBit t = true ↔ (0 < gz_e a b c p q r s t ∨ (gz_e a b c p q r s t = 0 ∧ gz_t a b p q t < 0)))
/-- a point of the line from which all streets are seen as m says -/
def gz_on (a b c : Nat → Int) (n : Nat) (p q r : Int) (m : Nat) : Prop :=
  ∃ x y w : Int, 0 < w ∧ p * x + q * y = r * w ∧ ∀ t, t < n → (gz_t a b p q t ≠ 0 → gz_h a b c t x y w ≠ 0 ∧ (m.testBit t = true ↔ 0 < gz_h a b c t x y w)) ∧ (gz_t a b p q t = 0 → m.testBit t = false)
theorem gz_same {x z : Int} (h : 0 < x * z) : z ≠ 0 ∧ x ≠ 0 ∧ (0 < z ↔ 0 < x) := by
  refine ⟨fun e => by rw [e] at h; simp at h, fun e => by rw [e] at h; simp at h, ?_⟩
  rcases Int.lt_trichotomy x 0 with q | q | q
  · rcases Int.lt_trichotomy z 0 with r | r | r
    · omega
    · subst r; simp at h
    · have := Int.mul_neg_of_neg_of_pos q r; omega
  · subst q; simp at h
  · rcases Int.lt_trichotomy z 0 with r | r | r
    · have := Int.mul_neg_of_pos_of_neg q r; omega
    · subst r; simp at h
    · omega
theorem gz_cut_on {a b c : Nat → Int} {n : Nat} {p q r : Int} (hpq : p ≠ 0 ∨ q ≠ 0) (hz : ∀ t, t < n → gz_t a b p q t = 0 → a t = p ∧ b t = q ∧ c t = r) {m : Nat} (h : gz_cut a b c n p q r m) : gz_on a b c n p q r m := by
  rcases h with h | ⟨s, hs, hts, h⟩
  · -- far off
    obtain ⟨N, hN, hNs⟩ := gz_N (fun t => gz_h a b c t (p * r) (q * r) (p * p + q * q)) n
    have hval : ∀ t, gz_h a b c t (N * (-q) + 1 * (p * r)) (N * p + 1 * (q * r)) (N * 0 + 1 * (p * p + q * q)) = N * gz_t a b p q t + gz_h a b c t (p * r) (q * r) (p * p + q * q) := fun t => by rw [gz_lin, gz_dir]; omega
    refine ⟨N * (-q) + 1 * (p * r), N * p + 1 * (q * r), N * 0 + 1 * (p * p + q * q), ?_, by grind, fun t ht => ⟨fun hne => ?_, fun he => ?_⟩⟩
    · have := gz_nz hpq; omega
    · rw [hval]
      have hb := gz_big (gz_sq hne) (hNs t ht).1 (hNs t ht).2
      obtain ⟨h1, -, h3⟩ := gz_same hb
      exact ⟨h1, (h t ht).trans h3.symm⟩
    · have := h t ht
      rw [he] at this
      cases hm : m.testBit t with
      | false => rfl
      | true => have := this.mp hm; omega
  · -- just ahead of the crossing with s
    obtain ⟨N, hN, hNs⟩ := gz_N (fun t => -(gz_t a b p q t)) n
    have hW := gz_W_pos hts
    have hval : ∀ t, gz_h a b c t (N * gz_X a b c p q r s + (-1) * (-q)) (N * gz_Y a b c p q r s + (-1) * p) (N * gz_W a b p q s + (-1) * 0) = N * gz_e a b c p q r s t + -(gz_t a b p q t) := fun t => by rw [gz_lin, gz_dir]; unfold gz_e; omega
    refine ⟨N * gz_X a b c p q r s + (-1) * (-q), N * gz_Y a b c p q r s + (-1) * p, N * gz_W a b p q s + (-1) * 0, ?_, ?_, fun t ht => ⟨fun hne => ?_, fun he => ?_⟩⟩
    · have := Int.mul_pos hN hW; omega
    · have := gz_onL a b c p q r s; grind
    · rw [hval]
      have hm := h t ht
      by_cases he : gz_e a b c p q r s t = 0
      · rw [he] at hm ⊢
        have e0 : N * 0 + -(gz_t a b p q t) = -(gz_t a b p q t) := by simp
        rw [e0]
        refine ⟨by omega, hm.trans ⟨fun z => ?_, fun z => Or.inr ⟨rfl, by omega⟩⟩⟩
        rcases z with z | z <;> omega
      · have hb := gz_big (gz_sq he) (hNs t ht).1 (hNs t ht).2
        obtain ⟨h1, -, h3⟩ := gz_same hb
        refine ⟨h1, hm.trans ⟨fun z => ?_, fun z => Or.inl (h3.mp z)⟩⟩
        rcases z with z | z
        · exact h3.mpr z
        · exact absurd z.1 he
    · have hm := h t ht
      rw [gz_e_line (hz t ht he), he] at hm
      cases hm2 : m.testBit t with
      | false => rfl
      | true => have := hm.mp hm2; omega
theorem gz_on_cut {a b c : Nat → Int} {n : Nat} {p q r : Int} (hz : ∀ t, t < n → gz_t a b p q t = 0 → a t = p ∧ b t = q ∧ c t = r) {m : Nat} (h : gz_on a b c n p q r m) : gz_cut a b c n p q r m := by
  obtain ⟨x, y, w, hw, hL, h⟩ := h
  rcases gz_least (al := fun t => gz_W a b p q t) (be := fun t => -(gz_sg (gz_t a b p q t)) * gz_h a b c t x y w) (T := fun t => gz_t a b p q t ≠ 0) n (fun t ht hT => ⟨gz_W_pos hT, by
      have h1 := ((h t ht).1 hT).1
      rcases gz_sg_or (gz_t a b p q t) with g | g <;> rw [g] <;> omega⟩) with hA | ⟨s, hs, hTs, hbs, hm⟩
  · refine Or.inl (fun t ht => ?_)
    by_cases hT : gz_t a b p q t = 0
    · rw [(h t ht).2 hT, hT]; simp
    · have h1 := hA t ht hT
      have h2 := (h t ht).1 hT
      have h3 := gz_sg_pos hT
      rw [h2.2]
      rcases gz_sg_or (gz_t a b p q t) with g | g <;> rw [g] at h1 h3 <;> omega
  · refine Or.inr ⟨s, hs, hTs, fun t ht => ?_⟩
    by_cases hT : gz_t a b p q t = 0
    · rw [(h t ht).2 hT, gz_e_line (hz t ht hT), hT]; simp
    · have h2 := (h t ht).1 hT
      have h3 := gz_sg_pos hT
      have hWs := gz_W_pos hTs
      have hWt := gz_W_pos hT
      have hme := gz_meet (a := a) (b := b) (c := c) hL s t
      have hmt := hm t ht hT
      rw [h2.2]
      try dsimp only at hbs hmt
      generalize hBs : -(gz_sg (gz_t a b p q s)) * gz_h a b c s x y w = Bs at hbs hmt hme
      generalize hWs' : gz_W a b p q s = Ws at hWs hme hmt
      have hWt' : gz_W a b p q t = gz_sg (gz_t a b p q t) * gz_t a b p q t := rfl
      generalize hE : gz_e a b c p q r s t = E at hme ⊢
      generalize hZ : gz_h a b c t x y w = Z at hme hmt h2 ⊢
      generalize hTt : gz_t a b p q t = τ at hme hmt h3 hT hWt' ⊢
      rw [hWt'] at hmt
      -- w * E = Ws * Z + Bs * τ
      have hsE : (0 < E ↔ 0 < w * E) ∧ (E = 0 ↔ w * E = 0) := by
        refine ⟨⟨fun z => Int.mul_pos hw z, fun z => ?_⟩, ⟨fun z => by rw [z]; simp, fun z => ?_⟩⟩
        · exact ((gz_same z).2.2).mpr hw
        · rcases Int.mul_eq_zero.mp z with z | z
          · omega
          · exact z
      rw [hsE.1, hsE.2, hme]
      rcases gz_sg_or τ with g | g <;> rw [g] at hmt h3
      · -- τ above 0
        have hτ : 0 < τ := by omega
        have hp : 0 < Bs * τ := Int.mul_pos hbs hτ
        rcases hmt with hmt | hmt
        · have hZp : 0 < Z := by omega
          have := Int.mul_pos hWs hZp
          omega
        · have e1 : Bs * (1 * τ) = Bs * τ := by rw [Int.one_mul]
          have e2 : -1 * Z * Ws = -(Ws * Z) := by grind
          rw [e1, e2] at hmt
          have hZn : Z < 0 := by
            rcases Int.lt_trichotomy Z 0 with q | q | q
            · exact q
            · exact absurd q h2.1
            · have := Int.mul_pos hWs q; omega
          omega
      · have hτ : τ < 0 := by omega
        have hp : Bs * τ < 0 := Int.mul_neg_of_pos_of_neg hbs hτ
        rcases hmt with hmt | hmt
        · have hZn : Z < 0 := by omega
          have := Int.mul_neg_of_pos_of_neg hWs hZn
          omega
        · have e1 : Bs * (-1 * τ) = -(Bs * τ) := by grind
          have e2 : -(-1) * Z * Ws = Ws * Z := by grind
          rw [e1, e2] at hmt
          have hZp : 0 < Z := by
            rcases Int.lt_trichotomy Z 0 with q | q | q
            · have := Int.mul_neg_of_pos_of_neg hWs q; omega
            · exact absurd q h2.1
            · exact q
          omega
