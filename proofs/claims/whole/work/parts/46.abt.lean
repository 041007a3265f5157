/-! which quarters the reference counts at a point -/
def gy_t (A B C : Nat → Int) (n i j : Nat) : Nat := bm (fun s => decide (gz_p A B C i j s = 0)) n
def gy_f (A B C : Nat → Int) (n i j : Nat) : Nat := bm (fun s => decide (0 < gz_p A B C i j s)) n
theorem ga_ok_iff {A B C : Nat → Int} {n i j q : Nat} : an (ga_ok A B n (gy_t A B C n i j) q) n = true ↔ gz_abt A B C n i j q := by
  rw [an_iff]
  have hth : ∀ s, s < n → ((gy_t A B C n i j).testBit s = true ↔ gz_p A B C i j s = 0) := fun s hs => by
    unfold gy_t; rw [bm_tb]; simp [hs]
  have hw : ∀ (k : Nat) (w : Bool), (!(an (ga_bad A B k w (gy_t A B C n i j) q) n)) = true ↔ ∀ t, t < n → t ≠ k → gz_p A B C i j t = 0 → (q.testBit t = true ↔ 0 < (if w then -1 else 1) * gz_t A B (A k) (B k) t) := by
    intro k w
    rw [Bool.not_eq_true', Bool.eq_false_iff, Ne, an_iff]
    constructor
    · intro h t ht htk htz
      have h1 : ¬ ga_bad A B k w (gy_t A B C n i j) q t = true := fun z => h ⟨t, ht, z⟩
      unfold ga_bad at h1
      rw [(hth t ht).mpr htz] at h1
      by_cases hp : 0 < (if w = true then -1 else 1) * gz_t A B (A k) (B k) t
      · rw [decide_eq_true hp, decide_eq_true htk] at h1
        cases hq : q.testBit t with
        | true => exact ⟨fun _ => hp, fun _ => rfl⟩
        | false => rw [hq] at h1; exact absurd rfl h1
      · rw [decide_eq_false hp, decide_eq_true htk] at h1
        cases hq : q.testBit t with
        | true => rw [hq] at h1; exact absurd rfl h1
        | false => exact ⟨fun z => (by cases z), fun z => absurd z hp⟩
    · rintro h ⟨t, ht, hb⟩
      unfold ga_bad at hb
      rw [Bool.and_eq_true, Bool.and_eq_true, decide_eq_true_eq, hth t ht] at hb
      obtain ⟨⟨h1, h2⟩, h3⟩ := hb
      have h4 := h t ht h1 h2
      by_cases hp : 0 < (if w = true then -1 else 1) * gz_t A B (A k) (B k) t
      · rw [decide_eq_true hp, h4.mpr hp] at h3; cases h3
      · rw [decide_eq_false hp] at h3
        cases hq : q.testBit t with
        | true => exact hp (h4.mp hq)
        | false => rw [hq] at h3; cases h3
  constructor
  · rintro ⟨k, hk, h⟩
    unfold ga_ok at h
    rw [Bool.and_eq_true, Bool.or_eq_true, hth k hk, hw, hw] at h
    obtain ⟨h1, h2 | h2⟩ := h
    · exact ⟨k, hk, h1, 1, Or.inl rfl, fun t ht htk hz => by simpa using h2 t ht htk hz⟩
    · exact ⟨k, hk, h1, -1, Or.inr rfl, fun t ht htk hz => by simpa using h2 t ht htk hz⟩
  · rintro ⟨k, hk, hz, g, hg, h⟩
    refine ⟨k, hk, ?_⟩
    unfold ga_ok
    rw [Bool.and_eq_true, Bool.or_eq_true, hth k hk, hw, hw]
    refine ⟨hz, ?_⟩
    rcases hg with rfl | rfl
    · exact Or.inl (fun t ht htk hz => by simpa using h t ht htk hz)
    · exact Or.inr (fun t ht htk hz => by simpa using h t ht htk hz)
theorem gz_abt_cong {A B C : Nat → Int} {n i j q r : Nat} (h : ∀ t, t < n → gz_p A B C i j t = 0 → q.testBit t = r.testBit t) : gz_abt A B C n i j q ↔ gz_abt A B C n i j r := by
  constructor
  · rintro ⟨k, hk, hz, g, hg, hh⟩
    exact ⟨k, hk, hz, g, hg, fun t ht htk hz => by rw [← h t ht hz]; exact hh t ht htk hz⟩
  · rintro ⟨k, hk, hz, g, hg, hh⟩
    exact ⟨k, hk, hz, g, hg, fun t ht htk hz => by rw [h t ht hz]; exact hh t ht htk hz⟩
def gy_h (A B C : Nat → Int) (n i j q : Nat) : Bool := decide (q = gy_f A B C n i j ||| (q &&& gy_t A B C n i j)) && an (ga_ok A B n (gy_t A B C n i j) (q &&& gy_t A B C n i j)) n
theorem gy_t_b (A B C : Nat → Int) (n i j s : Nat) : (gy_t A B C n i j).testBit s = (decide (s < n) && decide (gz_p A B C i j s = 0)) := bm_tb _ n s
theorem gy_f_b (A B C : Nat → Int) (n i j s : Nat) : (gy_f A B C n i j).testBit s = (decide (s < n) && decide (0 < gz_p A B C i j s)) := bm_tb _ n s
theorem gy_h_iff {A B C : Nat → Int} {n i j q : Nat} : gy_h A B C n i j q = true ↔ q < 2 ^ n ∧ gz_agr A B C n i j q ∧ gz_abt A B C n i j q := by
  unfold gy_h
  rw [Bool.and_eq_true, decide_eq_true_eq, ga_ok_iff]
  have hc : gz_abt A B C n i j (q &&& gy_t A B C n i j) ↔ gz_abt A B C n i j q := gz_abt_cong (fun t ht hz => by
    rw [Nat.testBit_and, gy_t_b, decide_eq_true ht, decide_eq_true hz]; simp)
  rw [hc]
  constructor
  · rintro ⟨h1, h2⟩
    have hb : ∀ s, q.testBit s = ((gy_f A B C n i j).testBit s || (q.testBit s && (gy_t A B C n i j).testBit s)) := fun s => by
      have := congrArg (fun m => m.testBit s) h1
      simpa only [Nat.testBit_or, Nat.testBit_and] using this
    refine ⟨?_, fun t ht hz => ?_, h2⟩
    · apply Nat.lt_pow_two_of_testBit
      intro s hs
      have h3 : ¬ s < n := by omega
      rw [hb s, gy_f_b, gy_t_b, decide_eq_false h3]; simp
    · have h3 := hb t
      rw [gy_f_b, gy_t_b, decide_eq_true ht, decide_eq_false hz] at h3
      simp at h3
      rw [h3, decide_eq_true_eq]
  · rintro ⟨h1, h2, h3⟩
    refine ⟨?_, h3⟩
    apply Nat.eq_of_testBit_eq
    intro s
    rw [Nat.testBit_or, Nat.testBit_and, gy_f_b, gy_t_b]
    by_cases hs : s < n
    · by_cases hz : gz_p A B C i j s = 0
      · simp [hs, hz]
      · have h4 := h2 s hs hz
        rw [decide_eq_true hs, decide_eq_false hz]
        cases hq : q.testBit s with
        | true => simp [h4.mp hq]
        | false =>
          have : ¬ 0 < gz_p A B C i j s := fun z => by rw [h4.mpr z] at hq; cases hq
          simp [this]
    · have h4 : q.testBit s = false := Nat.testBit_lt_two_pow (Nat.lt_of_lt_of_le h1 (Nat.pow_le_pow_right (by decide) (by omega)))
      simp [hs, h4]
/-- what the reference's corner[] holds: 0, or 1 and the corners -/
def gy_v (e : Bool) (k : Nat) : Nat := if k = 0 then (if e then 1 else 0) else k + 1
theorem gy_v_suc (e : Bool) (k : Nat) : (if 1 < gy_v e k then gy_v e k else 1) + 1 = gy_v e (k + 1) := by
  unfold gy_v
  cases e <;> by_cases h : k = 0 <;> simp [h] <;> omega
theorem gy_v_0 (e : Bool) : gy_v e 0 = if e then 1 else 0 := rfl
theorem gy_v_pos (e : Bool) (k : Nat) : 0 < gy_v e k ↔ e = true ∨ 0 < k := by
  unfold gy_v
  cases e <;> by_cases h : k = 0 <;> simp [h] <;> omega
theorem gy_v_le (e : Bool) (k : Nat) : gy_v e k ≤ k + 1 := by
  unfold gy_v
  cases e <;> by_cases h : k = 0 <;> simp [h]
def lU (st t : XS) : Prop := t.2 = st.2 ∧ (∀ k, k ≠ 0 → k ≠ 18 → k ≠ 19 → t.1 k = st.1 k) ∧ ∀ j, j < 20 → t.1 0 j = st.1 0 j
theorem lU_rfl (st : XS) : lU st st := ⟨rfl, fun _ _ _ _ => rfl, fun _ _ => rfl⟩
theorem lU_trans {a b c : XS} (h : lU a b) (g : lU b c) : lU a c := ⟨g.1.trans h.1, fun k h0 h1 h2 => (g.2.1 k h0 h1 h2).trans (h.2.1 k h0 h1 h2), fun j hj => (g.2.2 j hj).trans (h.2.2 j hj)⟩
theorem mL_u {st t : XS} {n : Nat} {A B C : Nat → Int} (h : mL st n A B C) (e : lU st t) : mL t n A B C := mL_of h (e.2.1 2 (by decide) (by decide) (by decide)) (e.2.1 3 (by decide) (by decide) (by decide)) (e.2.1 4 (by decide) (by decide) (by decide))
def yS (st t : XS) (E : Nat → Bool) (K : Nat → Nat) (p s m : Nat) : Prop := lU st t ∧ (∀ q, q < 128 → t.1 18 q = zI ((gy_v (E q) (K q) : Nat) : Int) ∧ t.1 19 q = zI (if E q then 1 else 0)) ∧ t.1 0 20 = zI (p : Int) ∧ t.1 0 21 = zI (s : Int) ∧ t.1 0 22 = zI (m : Int)
