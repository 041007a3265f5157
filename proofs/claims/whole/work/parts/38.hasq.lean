/-! is it a quarter; sides of quarters -/
theorem xo_cb_b (c : Prop) [Decidable c] : xo_cb (zI (if c then 1 else 0)) = some (zI (if c then 1 else 0)) := by
  by_cases h : c
  · rw [if_pos h]; rfl
  · rw [if_neg h]; rfl
theorem e_hasQ {st : XS} {Q : Nat → Bool} (h : st.2 0 = lS Q) {x : Int} (hx : zB x) : F_Pla_hasQuarter (zI x) st = some (zI (if 0 ≤ x ∧ x < 64 ∧ Q x.toNat = true then 1 else 0)) := by
  unfold F_Pla_hasQuarter
  rw [h, e_has Q hx, Option.bind_some, xo_cb_b, Option.bind_some]
theorem e_hasQn {st : XS} {Q : Nat → Bool} (h : st.2 0 = lS Q) {m : Nat} (hm : m < 64) : F_Pla_hasQuarter (zI (m : Int)) st = some (zI (if Q m = true then 1 else 0)) := by
  rw [e_hasQ h (zB_n (by omega))]
  congr 2
  have e : (↑m : Int).toNat = m := rfl
  rw [e]
  by_cases hQ : Q m = true
  · rw [if_pos ⟨by omega, by omega, hQ⟩, if_pos hQ]
  · rw [if_neg (fun z => hQ z.2.2), if_neg hQ]
theorem e_sidesOf {st : XS} {n : Nat} {A B C : Nat → Int} {Q : Nat → Bool} (h : cL st n A B C) (hQ : st.2 0 = lS Q) {q : Nat} (hq : q < 64) : F_Pla_sidesOf (zI (q : Int)) st = some (zI ((fb_ct (fun s => Q (q ^^^ 2 ^ s)) n : Nat) : Int)) := by
  have h6 := h.2.1
  unfold F_Pla_sidesOf
  rw [lp_cnt (fun s => Q (q ^^^ 2 ^ s)) n (by omega) (fun k c hk => ?_) (fun c => ?_)]
  · unfold F_Pla_sidesOf_b4
    dsimp only
    have h2k : 2 ^ k < 2 ^ 6 := Nat.pow_lt_pow_right (by decide) (by omega)
    have hx : q ^^^ 2 ^ k < 2 ^ 6 := Nat.xor_lt_two_pow (by omega) h2k
    rw [h.1, if_neg (zI_ge1 (by omega) hk), zI_bit k (by omega), zI_xor, e_hasQn hQ (show q ^^^ 2 ^ k < 64 by omega), Option.bind_some, xo_nm_b, xo_nm_b, xo_nm_b, zI_suc, zI_suc]
    by_cases hg : Q (q ^^^ 2 ^ k) = true
    · rw [if_pos hg, if_neg (by decide), if_pos hg]
    · rw [if_neg hg, if_pos (show zI 0 = 0 from rfl), if_neg hg]; rfl
  · unfold F_Pla_sidesOf_b4
    dsimp only
    rw [h.1, if_pos (zI_rfl _)]
