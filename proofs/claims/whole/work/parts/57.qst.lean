/-! quarters, open ones, corners, sides, points: both alike -/
def yL (A B C : Nat → Int) (n : Nat) (st t : XS) : Prop := lU st t ∧ (∀ q, q < 128 → t.1 18 q = zI ((gy_c A B C n q : Nat) : Int) ∧ t.1 19 q = zI (if gy_E A B n n q = true then 1 else 0)) ∧ t.1 0 20 = zI (((gp_ls A B C n n).length : Nat) : Int) ∧ t.1 0 21 = zI ((ls_sm (fun x => if 3 ≤ gp_th A B C n x then 1 else 0) (gp_ls A B C n n) : Nat) : Int) ∧ t.1 0 22 = zI ((fb_mx (fun k => gp_th A B C n ((gp_ls A B C n n).getD k (0, 0))) (gp_ls A B C n n).length : Nat) : Int)
theorem e_layL {st : XS} {n : Nat} {A B C : Nat → Int} (hm : mL st n A B C) : ∃ t, F_Mod_lay (zI (n : Int)) st = some t ∧ yL A B C n st t := by
  obtain ⟨t, h1, h2, h3, h4, h5, h6⟩ := e_lay hm
  refine ⟨t, h1, h2, h3, ?_, ?_, ?_⟩
  · rw [h4, fS_1, ls_sm_1]
  · rw [h5, fS_s]
  · rw [h6, gM_ls]
theorem gy_c_le (A B C : Nat → Int) {n : Nat} (h7 : n ≤ 7) (q : Nat) : gy_c A B C n q ≤ 10001 := by
  have h1 := gy_v_le (gy_E A B n n q) (fS (yf_k A B C n q) n 0)
  have h2 := fS_yk A B C h7 (Nat.le_refl n) (Nat.zero_le n) q
  unfold gy_c; omega
theorem gy_c_big {A B C : Nat → Int} {n q : Nat} (h6 : n ≤ 6) (hok : gz_ok A B n) (hq : 64 ≤ q) : gy_c A B C n q = 0 := by
  rcases Nat.eq_zero_or_pos (gy_c A B C n q) with h | h
  · exact h
  · have := ((gy_c_pos (by omega) hok).mp h).1
    have := p2_64 h6
    omega
theorem gy_c_no {A B C : Nat → Int} {n q : Nat} (h6 : n ≤ 6) (hok : gz_ok A B n) (hq : ¬ gq_Q A B C n n q = true) : gy_c A B C n q = 0 := by
  rcases Nat.eq_zero_or_pos (gy_c A B C n q) with h | h
  · exact h
  · exact absurd ((gy_c_Q h6 hok).mp h) hq
theorem gy_c_cor {A B C : Nat → Int} {n q : Nat} (h6 : n ≤ 6) (hok : gz_ok A B n) (hq : gq_Q A B C n n q = true) : gy_c A B C n q = ls_sm (fun x => if gp_g A B C n q x = true then 1 else 0) (gp_ls A B C n n) + 1 := by
  obtain ⟨h1, h2⟩ := (gq_Q_iff h6 hok).mp hq
  have hp := (gy_c_Q (C := C) h6 hok).mpr hq
  have e : fS (yf_k A B C n q) n 0 = ls_sm (fun x => if gp_g A B C n q x = true then 1 else 0) (gp_ls A B C n n) := by
    rw [fS_k]
    apply ls_sm_cong
    intro x hx
    obtain ⟨g1, g2, g3, g4⟩ := (gp_ls_mem (Nat.le_refl n)).mp hx
    have : gy_h A B C n x.1 x.2 q = true ↔ gp_g A B C n q x = true := by
      rw [gy_h_iff, gp_g_iff (by omega) h1]
      exact ⟨fun z => z.2.1, fun z => ⟨h1, z, gz_about hok h2 g2 g3⟩⟩
    by_cases c : gp_g A B C n q x = true
    · rw [if_pos c, if_pos (this.mpr c)]
    · rw [if_neg c, if_neg (fun z => c (this.mp z))]
  unfold gy_c at hp ⊢
  rw [e] at hp ⊢
  unfold gy_v at hp ⊢
  split
  · rename_i h0
    rw [if_pos h0] at hp
    rw [h0]
    split
    · rfl
    · rename_i h9; rw [if_neg h9] at hp; omega
  · rfl
theorem ct128 {P Q : Nat → Bool} (h1 : ∀ q, 64 ≤ q → P q = false) (h2 : ∀ q, q < 64 → P q = Q q) : fb_ct P 128 = fb_ct Q 64 := by
  rw [show (128 : Nat) = 64 + 64 from rfl, fb_ct_split, fb_ct_cong h2]
  have : fb_ct (fun k => P (64 + k)) 64 = 0 := fb_ct_zero.mpr (fun k _ => h1 (64 + k) (by omega))
  omega
theorem e_mhow {st t : XS} {n : Nat} {A B C : Nat → Int} (h6 : n ≤ 7) (h : yL A B C n st t) : F_Mod_howMany t = some (zI ((fb_ct (fun q => decide (0 < gy_c A B C n q)) 128 : Nat) : Int)) := by
  unfold F_Mod_howMany
  rw [lp_cnt (fun q => decide (0 < gy_c A B C n q)) 128 (by omega) (fun k c hk => ?_) (fun c => ?_)]
  · unfold F_Mod_howMany_b4
    dsimp only
    have hle := gy_c_le A B C h6 k
    rw [zI_128, if_neg (zI_ge1 (by omega) hk), xo_rd_z hk (by decide), Option.bind_some, (h.2.1 k hk).1, xo_nm_b, xo_nm_b, xo_nm_b, zI_suc, zI_suc]
    by_cases hc : 0 < gy_c A B C n k
    · rw [if_neg (by rw [zI_0, zI_le (zB_n (by omega)) (by decide)]; omega), if_pos (decide_eq_true hc)]
    · rw [if_pos (by rw [zI_0, zI_le (zB_n (by omega)) (by decide)]; omega), if_neg (by simpa using hc)]; rfl
  · unfold F_Mod_howMany_b4
    dsimp only
    rw [zI_128, if_pos (zI_rfl _)]
theorem how_Q {A B C : Nat → Int} {n : Nat} (h6 : n ≤ 6) (hok : gz_ok A B n) : fb_ct (fun q => decide (0 < gy_c A B C n q)) 128 = fb_ct (gq_Q A B C n n) 64 := by
  refine ct128 (fun q hq => ?_) (fun q hq => ?_)
  · rw [gy_c_big h6 hok hq]; rfl
  · have := gy_c_Q (C := C) (q := q) h6 hok
    by_cases hQ : gq_Q A B C n n q = true
    · rw [hQ, decide_eq_true (this.mpr hQ)]
    · rw [decide_eq_false (fun z => hQ (this.mp z))]
      simpa using hQ
theorem s_quarters (sc sm : XS) (h : xz_RR sc sm) : ∃ (r : Int32) (sc2 sm2 : XS), F_All_quarters sc = some r ∧ F_Mod_quarters sm = some (r, sm2) ∧ xz_RR sc2 sm2 ∧ sc = sc2 := by
  have hq := h
  obtain ⟨⟨n, A, B, C, Kd, P, X, Y, hc, hok, hpl, hkd, hp, hn, hm, hpm⟩, h2, h3, h4, h5⟩ := h
  have h6 := hc.2.1
  obtain ⟨t, g1, g2⟩ := e_layL hm
  unfold F_All_quarters F_Mod_quarters
  rw [hpl.2.1, e_count, hn, g1, Option.bind_some, Option.bind_some, e_mhow (by omega) g2, Option.bind_some, how_Q h6 hok]
  exact ⟨_, _, _, rfl, rfl, RR_m hq g2.1, rfl⟩
theorem s_open (sc sm : XS) (h : xz_RR sc sm) : ∃ (r : Int32) (sc2 sm2 : XS), F_All_open sc = some r ∧ F_Mod_open sm = some (r, sm2) ∧ xz_RR sc2 sm2 ∧ sc = sc2 := by
  have hq := h
  obtain ⟨⟨n, A, B, C, Kd, P, X, Y, hc, hok, hpl, hkd, hp, hn, hm, hpm⟩, h2, h3, h4, h5⟩ := h
  have h6 := hc.2.1
  obtain ⟨t, g1, g2⟩ := e_layL hm
  have e : fb_ct (gy_E A B n n) 128 = fb_ct (gq_O A B n n) 64 := by
    refine ct128 (fun q hq => ?_) (fun q hq => ?_)
    · rw [Bool.eq_false_iff, Ne, gy_E_iff (by omega)]
      have := p2_64 h6
      omega
    · have h1 := gy_E_iff (A := A) (B := B) (n := n) (q := q) (by omega)
      have h2 := gq_O_iff (A := A) (B := B) (n := n) (m := q) h6
      cases ha : gy_E A B n n q <;> cases hb : gq_O A B n n q <;> simp_all
  unfold F_All_open F_Mod_open
  rw [hpl.2.2, e_count, hn, g1, Option.bind_some, Option.bind_some]
  rw [lp_cnt (gy_E A B n n) 128 (by omega) (fun k c hk => ?_) (fun c => ?_), e]
  · exact ⟨_, _, _, rfl, rfl, RR_m hq g2.1, rfl⟩
  · unfold F_Mod_open_b12
    dsimp only
    rw [zI_128, if_neg (zI_ge1 (by omega) hk), xo_rd_z hk (by decide), Option.bind_some, (g2.2.1 k hk).2, xo_nm_b, xo_nm_b, xo_nm_b, zI_suc, zI_suc]
    by_cases hc : gy_E A B n n k = true
    · rw [if_pos hc, if_neg (by decide), if_pos hc]
    · rw [if_neg hc, if_pos (show zI 0 = 0 from rfl), if_neg hc]; rfl
  · unfold F_Mod_open_b12
    dsimp only
    rw [zI_128, if_pos (zI_rfl _)]
theorem s_with (sc sm : XS) (x1 : Int32) (h : xz_RR sc sm) : ∃ (r : Int32) (sc2 sm2 : XS), F_All_with x1 sc = some (r, sc2) ∧ F_Mod_with x1 sm = some (r, sm2) ∧ xz_RR sc2 sm2 := by
  obtain ⟨x, hx, rfl⟩ := zI_of x1
  have hq := h
  obtain ⟨⟨n, A, B, C, Kd, P, X, Y, hc, hok, hpl, hkd, hp, hn, hm, hpm⟩, h2, h3, h4, h5⟩ := h
  have h6 := hc.2.1
  have k1 : (0 : Int32) ≤ zI x ↔ 0 ≤ x := zi_le (by decide) hx _ _ rfl rfl
  have k2 : zI x ≤ (12 : Int32) ↔ x ≤ 12 := zi_le hx (by decide) _ _ rfl rfl
  by_cases x0 : 0 ≤ x
  · by_cases x12 : x ≤ 12
    · obtain ⟨w, rfl⟩ : ∃ w : Nat, x = w := ⟨x.toNat, by omega⟩
      obtain ⟨t, g1, g2⟩ := e_layL hm
      have hct : fb_ct (fun q => decide (gy_c A B C n q = w + 1)) 128 = fb_ct (fun q => gq_Q A B C n n q && decide (ls_sm (fun x => if gp_g A B C n q x then 1 else 0) (gp_ls A B C n n) = w)) 64 := by
        refine ct128 (fun q hq => ?_) (fun q hq => ?_)
        · rw [gy_c_big h6 hok hq]; simp
        · by_cases hQ : gq_Q A B C n n q = true
          · rw [hQ, Bool.true_and, gy_c_cor h6 hok hQ]
            simp
          · rw [gy_c_no h6 hok hQ]
            simp [hQ]
      rw [e_with h6 hpl.1 hpl.2.1 (by omega)]
      unfold F_Mod_with
      rw [if_pos (k1.mpr x0), if_pos (k2.mpr x12), hn, g1, Option.bind_some]
      rw [lp_cnt (fun q => decide (gy_c A B C n q = w + 1)) 128 (by omega) (fun k c hk => ?_) (fun c => ?_)]
      · rw [hct]
        exact ⟨_, _, _, rfl, rfl, RR_m hq g2.1⟩
      · unfold F_Mod_with_b36
        dsimp only
        have hle := gy_c_le A B C (show n ≤ 7 by omega) k
        rw [zI_128, if_neg (zI_ge1 (by omega) hk), xo_rd_z hk (by decide), Option.bind_some, (g2.2.1 k hk).1, xo_nm_b, xo_nm_b, xo_nm_b, zI_suc, zI_suc, zI_suc]
        by_cases hc : gy_c A B C n k = w + 1
        · rw [if_pos (by rw [hc]), if_pos (decide_eq_true hc)]
        · rw [if_neg (by rw [zI_eq (zB_n (by omega)) (zB_n (by omega)), Int.ofNat_inj]; exact hc), if_neg (by simpa using hc)]; rfl
      · unfold F_Mod_with_b36
        dsimp only
        rw [zI_128, if_pos (zI_rfl _)]
    · unfold F_All_with F_Mod_with
      rw [if_pos (k1.mpr x0), if_neg (fun z => x12 (k2.mp z)), if_pos (k1.mpr x0), if_neg (fun z => x12 (k2.mp z))]
      exact st_no6 hq
  · unfold F_All_with F_Mod_with
    rw [if_neg (fun z => x0 (k1.mp z)), if_neg (fun z => x0 (k1.mp z))]
    exact st_no4 hq
theorem e_misQ {sm : XS} {n : Nat} {A B C : Nat → Int} (h6 : n ≤ 6) (hok : gz_ok A B n) (hm : mL sm n A B C) (hn : sm.1 0 0 = zI (n : Int)) {x : Int} (hx : zB x) : ∃ t, F_Mod_isQuarter (zI x) sm = some (zI (if 0 ≤ x ∧ x < 64 ∧ gq_Q A B C n n x.toNat = true then 1 else 0), t) ∧ yL A B C n sm t := by
  obtain ⟨t, g1, g2⟩ := e_layL hm
  refine ⟨t, ?_, g2⟩
  unfold F_Mod_isQuarter
  have hw : F_Mod_within (zI x) (0 : Int32) (127 : Int32) = some (zI (if 0 ≤ x ∧ x ≤ 127 then 1 else 0)) := e_mwithin (a := 0) (b := 127) hx (by decide) (by decide)
  rw [hn, g1, Option.bind_some, hw, Option.bind_some]
  by_cases c : 0 ≤ x ∧ x ≤ 127
  · obtain ⟨q, rfl⟩ : ∃ w : Nat, x = w := ⟨x.toNat, by omega⟩
    have hle := gy_c_le A B C (show n ≤ 7 by omega) q
    have e : (↑q : Int).toNat = q := rfl
    rw [if_pos c, if_neg (by decide), xo_rd_z (show q < 128 by omega) (by decide), Option.bind_some, (g2.2.1 q (by omega)).1, e]
    by_cases hQ : gq_Q A B C n n q = true
    · have h1 := (gy_c_Q (C := C) h6 hok).mpr hQ
      have h2 := ((gq_Q_iff h6 hok).mp hQ).1
      have h3 := p2_64 h6
      rw [if_neg (by rw [zI_0, zI_le (zB_n (by omega)) (by decide)]; omega), if_pos ⟨by omega, by omega, hQ⟩]; rfl
    · rw [gy_c_no h6 hok hQ, if_pos (show zI ((0 : Nat) : Int) ≤ 0 from zI_rfl 0), if_neg (fun z => hQ z.2.2)]; rfl
  · rw [if_neg c, if_pos (show zI 0 = 0 from rfl), if_neg (fun z => c ⟨z.1, by omega⟩)]; rfl
