/-! LONGS AS SETS of numbers below 64 -/
def lS (P : Nat → Bool) : Int64 := lN (bm P 64)
theorem bm64 (P : Nat → Bool) : bm P 64 < 2 ^ 64 := bm_lt P 64
theorem bm_one {v : Nat} {n : Nat} (hv : v < n) : bm (fun m => decide (m = v)) n = 2 ^ v := by
  apply Nat.eq_of_testBit_eq
  intro i
  rw [bm_tb, Nat.testBit_two_pow]
  by_cases e : v = i
  · subst e; simp [hv]
  · have : i ≠ v := fun h => e h.symm
    simp [e, this]
theorem bm_or (P Q : Nat → Bool) (n : Nat) : bm P n ||| bm Q n = bm (fun m => P m || Q m) n := by
  apply Nat.eq_of_testBit_eq
  intro i
  rw [Nat.testBit_or, bm_tb, bm_tb, bm_tb]
  cases decide (i < n) <;> simp
theorem bm_and (P Q : Nat → Bool) (n : Nat) : bm P n &&& bm Q n = bm (fun m => P m && Q m) n := by
  apply Nat.eq_of_testBit_eq
  intro i
  rw [Nat.testBit_and, bm_tb, bm_tb, bm_tb]
  cases decide (i < n) <;> simp
theorem bm_none (n : Nat) : bm (fun _ => false) n = 0 := by
  apply Nat.eq_of_testBit_eq
  intro i
  rw [bm_tb]; simp
theorem lS_cong {P Q : Nat → Bool} (h : ∀ m, m < 64 → P m = Q m) : lS P = lS Q := by unfold lS; rw [bm_cong h]
theorem lS_one {v : Nat} (hv : v < 64) : (1 : Int64) <<< ((zI (v : Int)).toInt64 &&& 63) = lS (fun m => decide (m = v)) := by
  unfold lS
  rw [bm_one hv, zI_n]
  have h := wb_shl 1 hv
  rw [Nat.one_mul] at h
  exact h
theorem lS_or (P Q : Nat → Bool) : lS P ||| lS Q = lS (fun m => P m || Q m) := by
  unfold lS
  rw [wb_or (bm64 P) (bm64 Q), bm_or]
theorem lS_and (P Q : Nat → Bool) : lS P &&& lS Q = lS (fun m => P m && Q m) := by
  unfold lS
  rw [wb_and (bm64 P) (bm64 Q), bm_and]
theorem lS_0 : (0 : Int64) = lS (fun _ => false) := by
  unfold lS; rw [bm_none]; rfl
theorem lS_1 : (1 : Int64) = lS (fun m => decide (m = 0)) := by
  unfold lS; rw [bm_one (by decide)]; rfl
theorem lS_inj {P Q : Nat → Bool} (h : lS P = lS Q) : ∀ m, m < 64 → P m = Q m := by
  unfold lS at h
  have h2 := congrArg (fun x => x.toBitVec.toNat) h
  rw [wb_tn (bm64 P), wb_tn (bm64 Q)] at h2
  exact bm_inj h2
theorem lS_shl (P : Nat → Bool) {s : Nat} (hs : s < 6) : lS P <<< (((1 : Int32) <<< (zI (s : Int) &&& 31)).toInt64 &&& 63) = lS (fun m => decide (2 ^ s ≤ m) && P (m - 2 ^ s)) := by
  rw [zI_bit s (by omega)]
  have h2 : 2 ^ s < 64 := by
    have : 2 ^ s < 2 ^ 6 := Nat.pow_lt_pow_right (by decide) hs
    omega
  unfold lS
  rw [zI_n, wb_shl _ h2, wb_mod]
  congr 1
  apply Nat.eq_of_testBit_eq
  intro i
  rw [Nat.testBit_mod_two_pow, Nat.testBit_mul_two_pow, bm_tb, bm_tb]
  by_cases h : i < 64
  · by_cases h3 : 2 ^ s ≤ i
    · have : i - 2 ^ s < 64 := Nat.lt_of_le_of_lt (Nat.sub_le _ _) h
      simp [h, h3, this]
    · simp [h, h3]
  · simp [h]
theorem lS_bit (P : Nat → Bool) {k : Nat} (hk : k < 64) : ((lS P >>> ((zI (k : Int)).toInt64 &&& 63)) &&& (1 : Int64)) = lN (if P k then 1 else 0) := by
  rw [zI_n, wb_c k hk]
  apply wb_inj
  rw [Int64.toBitVec_and, Int64.toBitVec_shiftRight, wb_tb, wb_sm k hk]
  apply BitVec.eq_of_getLsbD_eq
  intro i hi
  have e1 : (1 : Int64).toBitVec = 1#64 := rfl
  have e2 : (BitVec.ofNat 64 k).toNat = k := by rw [BitVec.toNat_ofNat, Nat.mod_eq_of_lt (by omega)]
  have e3 : (lS P).toBitVec.getLsbD k = P k := by
    unfold lS
    rw [wb_tb, BitVec.getLsbD_ofNat, bm_tb]
    simp [hk]
  rw [BitVec.getLsbD_and, e1, BitVec.sshiftRight_eq', e2, BitVec.getLsbD_sshiftRight]
  by_cases h0 : i = 0
  · subst h0
    rw [Nat.add_zero, if_pos hk, e3, wb_tb, BitVec.getLsbD_ofNat]
    cases P k <;> simp
  · have e5 : (1#64).getLsbD i = false := by simp [BitVec.getLsbD_one, h0]
    rw [e5, Bool.and_false, wb_tb, BitVec.getLsbD_ofNat]
    cases P k with
    | true =>
      have h1 := Nat.testBit_two_pow (n := 0) (m := i)
      rw [Nat.pow_zero] at h1
      rw [if_pos rfl, h1]; simp; omega
    | false => simp
theorem e_has (P : Nat → Bool) {x : Int} (hx : zB x) : F_All_has (lS P) (zI x) = some (zI (if 0 ≤ x ∧ x < 64 ∧ P x.toNat = true then 1 else 0)) := by
  unfold F_All_has
  have e64 : (64 : Int32) = zI 64 := rfl
  rw [zI_0, e64]
  by_cases h1 : x < 0
  · rw [if_pos ((zI_lt hx (by decide)).mpr h1), if_neg (by omega)]
  · rw [if_neg (by rw [zI_lt hx (by decide)]; exact h1)]
    by_cases h2 : 64 ≤ x
    · rw [if_pos ((zI_le (by decide) hx).mpr h2), if_neg (by omega)]
    · rw [if_neg (by rw [zI_le (by decide) hx]; exact h2)]
      obtain ⟨k, rfl⟩ : ∃ k : Nat, x = k := ⟨x.toNat, by omega⟩
      have hc : (lg_cmp (lS P >>> ((zI (k : Int)).toInt64 &&& 63) &&& 1) 0 = zI 0) ↔ P k = false := by
        rw [← zI_0, lg_cmp_eq, lS_bit P (show k < 64 by omega)]
        cases P k <;> decide
      have e : (↑k : Int).toNat = k := rfl
      rw [e]
      by_cases hP : P k = true
      · rw [if_neg (by rw [hc, hP]; decide), if_pos ⟨by omega, by omega, hP⟩]; rfl
      · rw [if_pos (by rw [hc]; simpa using hP), if_neg (fun z => hP z.2.2)]
