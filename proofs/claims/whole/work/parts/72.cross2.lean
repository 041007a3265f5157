/-! crossings: both alike -/
theorem s_crossing (sc sm : XS) (x1 x2 x3 : Int32) (h : xz_RR sc sm) : ∃ (r : Int32) (sc2 sm2 : XS), F_All_crossing x1 x2 x3 sc = some (r, sc2) ∧ F_Mod_crossing x1 x2 x3 sm = some (r, sm2) ∧ xz_RR sc2 sm2 := by
  obtain ⟨x, hx, rfl⟩ := zI_of x1
  obtain ⟨y, hy, rfl⟩ := zI_of x2
  obtain ⟨z, hz, rfl⟩ := zI_of x3
  have hq := h
  obtain ⟨⟨n, A, B, C, Kd, P, X, Y, hc, hok, hpl, hkd, hp, hn, hm, hpm⟩, h2, h3, h4, h5⟩ := h
  have h6 := hc.2.1
  unfold F_All_crossing F_Mod_crossing F_All_crossing_m27 F_Mod_crossing_m21
  have hw : F_Mod_within (zI z) (0 : Int32) (3 : Int32) = some (zI (if 0 ≤ z ∧ z ≤ 3 then 1 else 0)) := e_mwithin (a := 0) (b := 3) hz (by decide) (by decide)
  rw [e_hasStreet hc hx, e_misStreet hn (by omega) hx, Option.bind_some, Option.bind_some]
  by_cases c : 0 ≤ x ∧ x < (n : Int)
  · obtain ⟨i, rfl⟩ : ∃ p : Nat, x = p := ⟨x.toNat, by omega⟩
    rw [if_pos c, if_neg (show ¬ zI 1 = 0 by decide), if_neg (show ¬ zI 1 = 0 by decide), e_hasStreet hc hy, e_misStreet hn (by omega) hy, Option.bind_some, Option.bind_some]
    by_cases d : 0 ≤ y ∧ y < (n : Int)
    · obtain ⟨j, rfl⟩ : ∃ p : Nat, y = p := ⟨y.toNat, by omega⟩
      rw [if_pos d, if_neg (show ¬ zI 1 = 0 by decide), if_neg (show ¬ zI 1 = 0 by decide)]
      have hi : i < n := by omega
      have hj : j < n := by omega
      by_cases e : i = j
      · subst e
        rw [if_pos rfl, if_pos rfl]
        exact st_far1 hq
      · have hne : ¬ zI (i : Int) = zI (j : Int) := by
          rw [zI_eq (zB_n (by omega)) (zB_n (by omega))]; omega
        rw [if_neg hne, if_neg hne, hw, Option.bind_some, e_cW hc hi hj, e_cX hc hi hj, e_cY hc hi hj]
        have hd0 := hok.2 i j hi hj e
        obtain ⟨a1, a2, a3⟩ := hc.2.2.2 i hi
        obtain ⟨b1, b2, b3⟩ := hc.2.2.2 j hj
        obtain ⟨bX, bY, bW⟩ := gX_ab hc.2.2.2 a1 a2 a3 hj
        have hW := gz_W_pos hd0
        obtain ⟨w, hw9⟩ : ∃ w : Nat, gz_W A B (A i) (B i) j = (w : Int) := ⟨(gz_W A B (A i) (B i) j).toNat, by omega⟩
        have hX9 : ab 100000 (gz_X A B C (A i) (B i) (C i) j) := by unfold ab at *; omega
        have hY9 : ab 100000 (gz_Y A B C (A i) (B i) (C i) j) := by unfold ab at *; omega
        have hw0 : 0 < w := by omega
        have hw3 : w ≤ 100000 := by rw [hw9] at bW; unfold ab at bW; omega
        have hwa : ab 100000 (w : Int) := by unfold ab; omega
        obtain ⟨m1, m2, m3⟩ := hm.2.1 i hi
        obtain ⟨l1, l2, l3⟩ := hm.2.1 j hj
        have e1 : A i * B j - A j * B i = gz_t A B (A i) (B i) j := by unfold gz_t; grind
        have vX : ab 1782 (C i * B j - C j * B i) := ab_sub (ab_mul a3 b2) (ab_mul b3 a2)
        have vY : ab 1782 (A i * C j - A j * C i) := ab_sub (ab_mul a1 b3) (ab_mul b1 a3)
        have eX : gz_sg (gz_t A B (A i) (B i) j) * (C i * B j - C j * B i) = gz_X A B C (A i) (B i) (C i) j := by
          unfold gz_X
          rw [Int.mul_comm (C j) (B i)]
        have eY : gz_sg (gz_t A B (A i) (B i) j) * (A i * C j - A j * C i) = gz_Y A B C (A i) (B i) (C i) j := by
          unfold gz_Y
          rw [Int.mul_comm (A j) (C i)]
        have eW : gz_sg (gz_t A B (A i) (B i) j) * gz_t A B (A i) (B i) j = gz_W A B (A i) (B i) j := rfl
        have hd := gt_ab hc.2.2.2 a1 a2 hj
        have kX : ∀ k : Nat, k < 4 → F_Mod_crossing_m134 (zI (k : Int)) (zI (gz_t A B (A i) (B i) j)) (zI (C i * B j - C j * B i)) sm = some (zI (if k % 2 = 0 then (gz_X A B C (A i) (B i) (C i) j).tdiv (Nat.gcd (gz_X A B C (A i) (B i) (C i) j).natAbs w : Int) else (w : Int).tdiv (Nat.gcd (gz_X A B C (A i) (B i) (C i) j).natAbs w : Int)), sm) := fun k hk => by
          have e2 : (w : Int).natAbs = w := rfl
          rw [e_cr134 hk hd0 hd vX, eX, eW, hw9, e2]
        have kY : ∀ k : Nat, k < 4 → F_Mod_crossing_m134 (zI (k : Int)) (zI (gz_t A B (A i) (B i) j)) (zI (A i * C j - A j * C i)) sm = some (zI (if k % 2 = 0 then (gz_Y A B C (A i) (B i) (C i) j).tdiv (Nat.gcd (gz_Y A B C (A i) (B i) (C i) j).natAbs w : Int) else (w : Int).tdiv (Nat.gcd (gz_Y A B C (A i) (B i) (C i) j).natAbs w : Int)), sm) := fun k hk => by
          have e2 : (w : Int).natAbs = w := rfl
          rw [e_cr134 hk hd0 hd vY, eY, eW, hw9, e2]
        rw [hw9]
        simp only [Option.bind_some, xo_rd_z (show i < 7 by omega) (show 7 < 2147483648 by decide), xo_rd_z (show j < 7 by omega) (show 7 < 2147483648 by decide), m1, m2, m3, l1, l2, l3, zI_mul, zI_sub, xo_nm_b, e1]
        have k0 : zI z = (0 : Int32) ↔ z = 0 := zi_eq hz (by decide) _ _ rfl rfl
        have k1 : zI z = (1 : Int32) ↔ z = 1 := zi_eq hz (by decide) _ _ rfl rfl
        have k2 : zI z = (2 : Int32) ↔ z = 2 := zi_eq hz (by decide) _ _ rfl rfl
        have k3 : zI z = (3 : Int32) ↔ z = 3 := zi_eq hz (by decide) _ _ rfl rfl
        have k4 : (2 : Int32) ≤ zI z ↔ 2 ≤ z := zi_le (by decide) hz _ _ rfl rfl
        simp only [k0, k1, k2, k3, k4]
        generalize gz_X A B C (A i) (B i) (C i) j = u at *
        generalize gz_Y A B C (A i) (B i) (C i) j = v at *
        by_cases c3 : 0 ≤ z ∧ z ≤ 3
        · rw [if_pos c3, if_neg (show ¬ zI 1 = 0 by decide)]
          rcases (show z = 0 ∨ z = 1 ∨ z = 2 ∨ z = 3 by omega) with rfl | rfl | rfl | rfl
          · have h9 := kX 0 (by decide)
            rw [if_pos rfl] at h9
            have h9' : F_Mod_crossing_m134 (zI 0) (zI (gz_t A B (A i) (B i) j)) (zI (C i * B j - C j * B i)) sm = some (zI (u.tdiv (Nat.gcd u.natAbs w : Int)), sm) := h9
            rw [if_pos rfl, if_neg (by decide), h9', e_cancel hX9 hX9 hw0 hw3]
            exact ⟨_, _, _, rfl, rfl, hq⟩
          · have h9 := kX 1 (by decide)
            rw [if_neg (by decide)] at h9
            have h9' : F_Mod_crossing_m134 (zI 1) (zI (gz_t A B (A i) (B i) j)) (zI (C i * B j - C j * B i)) sm = some (zI ((w : Int).tdiv (Nat.gcd u.natAbs w : Int)), sm) := h9
            rw [if_neg (show ¬ (1 : Int) = 0 by decide), if_pos rfl, if_neg (show ¬ (2 : Int) ≤ 1 by decide), h9', e_cancel hX9 hwa hw0 hw3]
            exact ⟨_, _, _, rfl, rfl, hq⟩
          · have h9 := kY 2 (by decide)
            rw [if_pos rfl] at h9
            have h9' : F_Mod_crossing_m134 (zI 2) (zI (gz_t A B (A i) (B i) j)) (zI (A i * C j - A j * C i)) sm = some (zI (v.tdiv (Nat.gcd v.natAbs w : Int)), sm) := h9
            rw [if_neg (show ¬ (2 : Int) = 0 by decide), if_neg (show ¬ (2 : Int) = 1 by decide), if_pos rfl, if_pos (show (2 : Int) ≤ 2 by decide), h9', e_cancel hY9 hY9 hw0 hw3]
            exact ⟨_, _, _, rfl, rfl, hq⟩
          · have h9 := kY 3 (by decide)
            rw [if_neg (by decide)] at h9
            have h9' : F_Mod_crossing_m134 (zI 3) (zI (gz_t A B (A i) (B i) j)) (zI (A i * C j - A j * C i)) sm = some (zI ((w : Int).tdiv (Nat.gcd v.natAbs w : Int)), sm) := h9
            rw [if_neg (show ¬ (3 : Int) = 0 by decide), if_neg (show ¬ (3 : Int) = 1 by decide), if_neg (show ¬ (3 : Int) = 2 by decide), if_pos rfl, if_pos (show (2 : Int) ≤ 3 by decide), h9', e_cancel hY9 hwa hw0 hw3]
            exact ⟨_, _, _, rfl, rfl, hq⟩
        · rw [if_neg (show ¬ z = 0 by omega), if_neg (show ¬ z = 1 by omega), if_neg (show ¬ z = 2 by omega), if_neg (show ¬ z = 3 by omega), if_neg c3, if_pos (show zI 0 = 0 from rfl)]
          exact st_far2 hq
    · rw [if_neg d, if_pos (show zI 0 = 0 from rfl), if_pos (show zI 0 = 0 from rfl)]
      exact st_far1 hq
  · rw [if_neg c, if_pos (show zI 0 = 0 from rfl), if_pos (show zI 0 = 0 from rfl)]
    exact st_far1 hq
