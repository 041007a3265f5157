/-! corners, sides, openness of a quarter; how many lie at all; points -/
theorem s_corners (sc sm : XS) (x1 : Int32) (h : xz_RR sc sm) : ∃ (r : Int32) (sc2 sm2 : XS), F_All_corners x1 sc = some (r, sc2) ∧ F_Mod_corners x1 sm = some (r, sm2) ∧ xz_RR sc2 sm2 := by
  obtain ⟨x, hx, rfl⟩ := zI_of x1
  have hq := h
  obtain ⟨⟨n, A, B, C, Kd, P, X, Y, hc, hok, hpl, hkd, hp, hn, hm, hpm⟩, h2, h3, h4, h5⟩ := h
  have h6 := hc.2.1
  obtain ⟨t, g1, g2⟩ := e_misQ h6 hok hm hn hx
  unfold F_All_corners F_Mod_corners
  rw [e_hasQ hpl.2.1 hx, Option.bind_some, g1]
  unfold xo_bn
  rw [Option.bind_some]
  dsimp only
  by_cases c : 0 ≤ x ∧ x < 64 ∧ gq_Q A B C n n x.toNat = true
  · obtain ⟨q, rfl⟩ : ∃ w : Nat, x = w := ⟨x.toNat, by omega⟩
    have hQ : gq_Q A B C n n q = true := c.2.2
    rw [if_pos c, if_neg (by decide), if_neg (by decide), e_corners h6 hpl.1 (by omega), xo_rd_z (show q < 128 by omega) (by decide), (g2.2.1 q (by omega)).1, gy_c_cor h6 hok hQ, Option.bind_some, Option.bind_some]
    have e1 : ∀ v : Nat, zI ((v + 1 : Nat) : Int) - (1 : Int32) = zI (v : Int) := fun v => by
      rw [zI_1, zI_sub, show ((v + 1 : Nat) : Int) - 1 = (v : Int) by omega]
    rw [e1]
    exact ⟨_, _, _, rfl, rfl, RR_m hq g2.1⟩
  · rw [if_neg c, if_pos (show zI 0 = 0 from rfl), if_pos (show zI 0 = 0 from rfl)]
    exact st_no1 (RR_m hq g2.1)
theorem e_msidesOf {st t : XS} {n : Nat} {A B C : Nat → Int} (h6 : n ≤ 6) (hok : gz_ok A B n) (h : yL A B C n st t) (hn : st.1 0 0 = zI (n : Int)) {q : Nat} (hq : q < 64) : F_Mod_sidesOf (zI (q : Int)) t = some (zI ((fb_ct (fun s => gq_Q A B C n n (q ^^^ 2 ^ s)) n : Nat) : Int)) := by
  have hnt : t.1 0 0 = zI (n : Int) := (h.1.2.2 0 (by omega)).trans hn
  unfold F_Mod_sidesOf
  rw [lp_cnt (fun s => gq_Q A B C n n (q ^^^ 2 ^ s)) n (by omega) (fun k c hk => ?_) (fun c => ?_)]
  · unfold F_Mod_sidesOf_b4
    dsimp only
    have h2k : 2 ^ k < 2 ^ 6 := Nat.pow_lt_pow_right (by decide) (by omega)
    have hx : q ^^^ 2 ^ k < 2 ^ 6 := Nat.xor_lt_two_pow (by omega) h2k
    have hle := gy_c_le A B C (show n ≤ 7 by omega) (q ^^^ 2 ^ k)
    rw [hnt, if_neg (zI_ge1 (by omega) hk), zI_bit k (by omega), zI_xor, xo_rd_z (show q ^^^ 2 ^ k < 128 by omega) (by decide), Option.bind_some, (h.2.1 _ (by omega)).1, xo_nm_b, xo_nm_b, xo_nm_b, zI_suc, zI_suc]
    have hcq := gy_c_Q (C := C) (q := q ^^^ 2 ^ k) h6 hok
    by_cases hg : gq_Q A B C n n (q ^^^ 2 ^ k) = true
    · have := hcq.mpr hg
      rw [if_neg (by rw [zI_0, zI_le (zB_n (by omega)) (by decide)]; omega), if_pos hg]
    · rw [gy_c_no h6 hok hg, if_pos (show zI ((0 : Nat) : Int) ≤ 0 from zI_rfl 0), if_neg hg]; rfl
  · unfold F_Mod_sidesOf_b4
    dsimp only
    rw [hnt, if_pos (zI_rfl _)]
theorem s_sides (sc sm : XS) (x1 : Int32) (h : xz_RR sc sm) : ∃ (r : Int32) (sc2 sm2 : XS), F_All_sides x1 sc = some (r, sc2) ∧ F_Mod_sides x1 sm = some (r, sm2) ∧ xz_RR sc2 sm2 := by
  obtain ⟨x, hx, rfl⟩ := zI_of x1
  have hq := h
  obtain ⟨⟨n, A, B, C, Kd, P, X, Y, hc, hok, hpl, hkd, hp, hn, hm, hpm⟩, h2, h3, h4, h5⟩ := h
  have h6 := hc.2.1
  obtain ⟨t, g1, g2⟩ := e_misQ h6 hok hm hn hx
  unfold F_All_sides F_Mod_sides
  rw [e_hasQ hpl.2.1 hx, Option.bind_some, g1]
  unfold xo_bn
  rw [Option.bind_some]
  dsimp only
  by_cases c : 0 ≤ x ∧ x < 64 ∧ gq_Q A B C n n x.toNat = true
  · obtain ⟨q, rfl⟩ : ∃ w : Nat, x = w := ⟨x.toNat, by omega⟩
    rw [if_pos c, if_neg (by decide), if_neg (by decide), e_sidesOf hc hpl.2.1 (by omega), e_msidesOf h6 hok g2 hn (by omega)]
    exact ⟨_, _, _, rfl, rfl, RR_m hq g2.1⟩
  · rw [if_neg c, if_pos (show zI 0 = 0 from rfl), if_pos (show zI 0 = 0 from rfl)]
    exact st_no1 (RR_m hq g2.1)
theorem gyE_O {A B : Nat → Int} {n q : Nat} (h6 : n ≤ 6) : gy_E A B n n q = gq_O A B n n q := by
  have h1 := gy_E_iff (A := A) (B := B) (n := n) (q := q) (by omega)
  have h2 := gq_O_iff (A := A) (B := B) (n := n) (m := q) h6
  cases ha : gy_E A B n n q <;> cases hb : gq_O A B n n q <;> simp_all
theorem s_isOpen (sc sm : XS) (x1 : Int32) (h : xz_RR sc sm) : ∃ (r : Int32) (sc2 sm2 : XS), F_All_isOpen x1 sc = some (r, sc2) ∧ F_Mod_isOpen x1 sm = some (r, sm2) ∧ xz_RR sc2 sm2 := by
  obtain ⟨x, hx, rfl⟩ := zI_of x1
  have hq := h
  obtain ⟨⟨n, A, B, C, Kd, P, X, Y, hc, hok, hpl, hkd, hp, hn, hm, hpm⟩, h2, h3, h4, h5⟩ := h
  have h6 := hc.2.1
  obtain ⟨t, g1, g2⟩ := e_misQ h6 hok hm hn hx
  unfold F_All_isOpen F_Mod_isOpen
  rw [e_hasQ hpl.2.1 hx, Option.bind_some, g1]
  unfold xo_bn
  rw [Option.bind_some]
  dsimp only
  by_cases c : 0 ≤ x ∧ x < 64 ∧ gq_Q A B C n n x.toNat = true
  · obtain ⟨q, rfl⟩ : ∃ w : Nat, x = w := ⟨x.toNat, by omega⟩
    have e : (↑q : Int).toNat = q := rfl
    rw [if_pos c, if_neg (by decide), if_neg (by decide), hpl.2.2, e_has _ hx, xo_rd_z (show q < 128 by omega) (by decide), (g2.2.1 q (by omega)).2, Option.bind_some, Option.bind_some, gyE_O h6, e]
    by_cases hO : gq_O A B n n q = true
    · rw [if_pos (show (0 : Int) ≤ (q : Int) ∧ (q : Int) < 64 ∧ gq_O A B n n q = true from ⟨c.1, c.2.1, hO⟩), if_pos hO, if_neg (by decide), if_neg (by decide)]
      exact ⟨_, _, _, rfl, rfl, RR_m hq g2.1⟩
    · rw [if_neg (show ¬ ((0 : Int) ≤ (q : Int) ∧ (q : Int) < 64 ∧ gq_O A B n n q = true) from fun z => hO z.2.2), if_neg hO, if_pos (show zI 0 = 0 from rfl), if_pos (show zI 0 = 0 from rfl)]
      exact ⟨_, _, _, rfl, rfl, RR_m hq g2.1⟩
  · rw [if_neg c, if_pos (show zI 0 = 0 from rfl), if_pos (show zI 0 = 0 from rfl)]
    exact st_no1 (RR_m hq g2.1)
theorem s_whole (sc sm : XS) (h : xz_RR sc sm) : ∃ (r : Int32) (sc2 sm2 : XS), F_All_whole sc = some r ∧ F_Mod_whole sm = some (r, sm2) ∧ xz_RR sc2 sm2 ∧ sc = sc2 := by
  have hq := h
  obtain ⟨⟨n, A, B, C, Kd, P, X, Y, hc, hok, hpl, hkd, hp, hn, hm, hpm⟩, h2, h3, h4, h5⟩ := h
  have h6 := hc.2.1
  obtain ⟨t, g1, g2⟩ := e_layL hm
  have hnt : t.1 0 0 = zI (n : Int) := (g2.1.2.2 0 (by omega)).trans hn
  rw [e_whole hc hpl.2.1]
  unfold F_Mod_whole
  rw [hn, g1, Option.bind_some]
  have hct : fb_ct (fun q => decide (0 < gy_c A B C n q) && decide (fb_ct (fun s => gq_Q A B C n n (q ^^^ 2 ^ s)) n = n)) 128 = fb_ct (fun q => gq_Q A B C n n q && decide (fb_ct (fun s => gq_Q A B C n n (q ^^^ 2 ^ s)) n = n)) 64 := by
    refine ct128 (fun q hq => ?_) (fun q hq => ?_)
    · rw [gy_c_big h6 hok hq]; simp
    · have := gy_c_Q (C := C) (q := q) h6 hok
      by_cases hQ : gq_Q A B C n n q = true
      · rw [hQ, decide_eq_true (this.mpr hQ)]
      · have hQ' : gq_Q A B C n n q = false := by simpa using hQ
        rw [decide_eq_false (fun z => hQ (this.mp z)), hQ', Bool.false_and]
  rw [← hct]
  rw [lp_cnt (fun q => decide (0 < gy_c A B C n q) && decide (fb_ct (fun s => gq_Q A B C n n (q ^^^ 2 ^ s)) n = n)) 128 (by omega) (fun k c hk => ?_) (fun c => ?_)]
  · exact ⟨_, _, _, rfl, rfl, RR_m hq g2.1, rfl⟩
  · unfold F_Mod_whole_b12
    dsimp only
    have hle := gy_c_le A B C (show n ≤ 7 by omega) k
    rw [zI_128, if_neg (zI_ge1 (by omega) hk), xo_rd_z hk (by decide), Option.bind_some, (g2.2.1 k hk).1]
    by_cases hp : 0 < gy_c A B C n k
    · have hk64 : k < 64 := by
        rcases Nat.lt_or_ge k 64 with q | q
        · exact q
        · rw [gy_c_big h6 hok q] at hp; omega
      have hcl := fb_ct_le (fun s => gq_Q A B C n n (k ^^^ 2 ^ s)) n
      rw [if_neg (by rw [zI_0, zI_le (zB_n (by omega)) (by decide)]; omega), e_msidesOf h6 hok g2 hn hk64, Option.bind_some, hnt, decide_eq_true hp, Bool.true_and, xo_nm_b, xo_nm_b, xo_nm_b, zI_suc, zI_suc]
      by_cases hc : fb_ct (fun s => gq_Q A B C n n (k ^^^ 2 ^ s)) n = n
      · rw [if_pos (by rw [hc]), if_pos (decide_eq_true hc)]
      · rw [if_neg (by rw [zI_eq (zB_n (by omega)) (zB_n (by omega)), Int.ofNat_inj]; exact hc), if_neg (by simpa using hc)]; rfl
    · rw [if_pos (by rw [zI_0, zI_le (zB_n (by omega)) (by decide)]; omega), xo_nm_b, zI_suc, decide_eq_false hp, Bool.false_and, if_neg (by decide)]; rfl
  · unfold F_Mod_whole_b12
    dsimp only
    rw [zI_128, if_pos (zI_rfl _)]
theorem s_points (sc sm : XS) (x1 : Int32) (h : xz_RR sc sm) : ∃ (r : Int32) (sc2 sm2 : XS), F_All_points x1 sc = some (r, sc2) ∧ F_Mod_points x1 sm = some (r, sm2) ∧ xz_RR sc2 sm2 := by
  obtain ⟨x, hx, rfl⟩ := zI_of x1
  have hq := h
  obtain ⟨⟨n, A, B, C, Kd, P, X, Y, hc, hok, hpl, hkd, hp, hn, hm, hpm⟩, h2, h3, h4, h5⟩ := h
  have h6 := hc.2.1
  have h15 := gp_ls_15 A B C h6
  obtain ⟨t, g1, g2, g3, g4, g5, g6⟩ := e_layL hm
  unfold F_All_points F_Mod_points
  have hw : F_Mod_within (zI x) (0 : Int32) (2 : Int32) = some (zI (if 0 ≤ x ∧ x ≤ 2 then 1 else 0)) := e_mwithin (a := 0) (b := 2) hx (by decide) (by decide)
  have k0 : zI x = (0 : Int32) ↔ x = 0 := zi_eq hx (by decide) _ _ rfl rfl
  have k1 : zI x = (1 : Int32) ↔ x = 1 := zi_eq hx (by decide) _ _ rfl rfl
  have k2 : zI x = (2 : Int32) ↔ x = 2 := zi_eq hx (by decide) _ _ rfl rfl
  rw [hw, Option.bind_some, e_squares h6 hpl.1 h15, e_mostMeet h6 hpl.1 h15, hpl.1.1]
  simp only [k0, k1, k2]
  by_cases c : 0 ≤ x ∧ x ≤ 2
  · rw [if_pos c, if_neg (show ¬ zI 1 = 0 by decide), hn, g1]
    simp only [Option.bind_some]
    rw [g4, g5, g6]
    rcases (show x = 0 ∨ x = 1 ∨ x = 2 by omega) with rfl | rfl | rfl
    · exact ⟨_, _, _, rfl, rfl, RR_m hq g2⟩
    · exact ⟨_, _, _, rfl, rfl, RR_m hq g2⟩
    · exact ⟨_, _, _, rfl, rfl, RR_m hq g2⟩
  · rw [if_neg c, if_pos (show zI 0 = 0 from rfl), if_neg (by omega), if_neg (by omega), if_neg (by omega)]
    exact st_no2 hq
theorem bitc1 {u v : Nat} (hu : u < 64) (hv : v < 64) : F_Int_bitCount (zI (u : Int) ^^^ zI (v : Int)) = some (zI ((fb_ct (u ^^^ v).testBit 8 : Nat) : Int)) := by
  have b3 : u ^^^ v < 2 ^ 6 := Nat.xor_lt_two_pow hu hv
  rw [zI_xor, e_icount _ (by omega)]
