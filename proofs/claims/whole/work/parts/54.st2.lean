/-! plots, lines through them, where they lie -/
theorem some_eta {α β : Type} (x : Option (α × β)) : xo_bn x (fun v t => some (v, t)) = x := by cases x <;> rfl
theorem s_plot (sc sm : XS) (x1 x2 : Int32) (h : xz_RR sc sm) : ∃ (r : Int32) (sc2 sm2 : XS), F_All_plot x1 x2 sc = some (r, sc2) ∧ F_Mod_plot x1 x2 sm = some (r, sm2) ∧ xz_RR sc2 sm2 := by
  obtain ⟨x, hx, rfl⟩ := zI_of x1
  obtain ⟨y, hy, rfl⟩ := zI_of x2
  have hq := h
  obtain ⟨⟨n, A, B, C, Kd, P, X, Y, h1, hok, hpl, hkd, hp, hn, hm, hpm⟩, h2, h3, h4, h5⟩ := h
  unfold F_All_plot F_Mod_plot
  have hw : F_Mod_within (zI y) (0 : Int32) (1 : Int32) = some (zI (if 0 ≤ y ∧ y ≤ 1 then 1 else 0)) := e_mwithin (a := 0) (b := 1) hy (by decide) (by decide)
  have k0 : zI y = (0 : Int32) ↔ y = 0 := zi_eq hy (by decide) _ _ rfl rfl
  have k1 : zI y = (1 : Int32) ↔ y = 1 := zi_eq hy (by decide) _ _ rfl rfl
  rw [e_hasPlot hp hx, e_misPlot hpm.1 hpm.2.1 hx, Option.bind_some, Option.bind_some]
  by_cases c : 0 ≤ x ∧ x < (P : Int)
  · obtain ⟨p, rfl⟩ : ∃ p : Nat, x = p := ⟨x.toNat, by omega⟩
    obtain ⟨g1, g2, -, -⟩ := hp.2.2 p (by omega)
    obtain ⟨m1, m2, -, -⟩ := hpm.2.2 p (by omega)
    have h8 := hp.2.1
    rw [if_pos c, if_neg (by decide), hw, Option.bind_some]
    simp only [k0, k1]
    by_cases c0 : y = 0
    · rw [if_pos c0, if_neg (show ¬ zI (if 0 ≤ y ∧ y ≤ 1 then 1 else 0) = 0 by rw [if_pos (by omega)]; decide), if_pos c0, xo_rd_z (by omega) (by decide), xo_rd_z (by omega) (by decide), g1, m1]
      exact ⟨_, _, _, rfl, rfl, hq⟩
    · rw [if_neg c0, if_neg c0]
      by_cases c1 : y = 1
      · rw [if_pos c1, if_neg (show ¬ zI (if 0 ≤ y ∧ y ≤ 1 then 1 else 0) = 0 by rw [if_pos (by omega)]; decide), xo_rd_z (by omega) (by decide), xo_rd_z (by omega) (by decide), g2, m2]
        exact ⟨_, _, _, rfl, rfl, hq⟩
      · rw [if_neg c1, if_pos (show zI (if 0 ≤ y ∧ y ≤ 1 then 1 else 0) = 0 by rw [if_neg (by omega)]; rfl)]
        exact st_far2 hq
  · rw [if_neg c, if_pos (show zI 0 = 0 from rfl), if_pos (show zI 0 = 0 from rfl)]
    exact st_far1 hq
theorem s_where (sc sm : XS) (x1 : Int32) (h : xz_RR sc sm) : ∃ (r : Int32) (sc2 sm2 : XS), F_All_where x1 sc = some (r, sc2) ∧ F_Mod_where x1 sm = some (r, sm2) ∧ xz_RR sc2 sm2 := by
  obtain ⟨x, hx, rfl⟩ := zI_of x1
  have hq := h
  obtain ⟨⟨n, A, B, C, Kd, P, X, Y, h1, hok, hpl, hkd, hp, hn, hm, hpm⟩, h2, h3, h4, h5⟩ := h
  unfold F_All_where F_Mod_where
  rw [e_hasPlot hp hx, e_misPlot hpm.1 hpm.2.1 hx, Option.bind_some, Option.bind_some]
  by_cases c : 0 ≤ x ∧ x < (P : Int)
  · obtain ⟨p, rfl⟩ : ∃ p : Nat, x = p := ⟨x.toNat, by omega⟩
    rw [if_pos c, if_neg (by decide), if_neg (by decide), e_qPlot h1 hp (show p < P by omega), e_mwhere hm hn hpm (show p < P by omega)]
    exact ⟨_, _, _, rfl, rfl, hq⟩
  · rw [if_neg c, if_pos (show zI 0 = 0 from rfl), if_pos (show zI 0 = 0 from rfl)]
    exact st_no1 hq
theorem s_steps (sc sm : XS) (x1 x2 : Int32) (h : xz_RR sc sm) : ∃ (r : Int32) (sc2 sm2 : XS), F_All_steps x1 x2 sc = some (r, sc2) ∧ F_Mod_steps x1 x2 sm = some (r, sm2) ∧ xz_RR sc2 sm2 := by
  obtain ⟨x, hx, rfl⟩ := zI_of x1
  obtain ⟨y, hy, rfl⟩ := zI_of x2
  have hq := h
  obtain ⟨⟨n, A, B, C, Kd, P, X, Y, h1, hok, hpl, hkd, hp, hn, hm, hpm⟩, h2, h3, h4, h5⟩ := h
  unfold F_All_steps F_Mod_steps F_All_steps_m22 F_Mod_steps_m16
  rw [e_hasPlot hp hx, e_misPlot hpm.1 hpm.2.1 hx, Option.bind_some, Option.bind_some]
  by_cases c : 0 ≤ x ∧ x < (P : Int)
  · obtain ⟨p, rfl⟩ : ∃ p : Nat, x = p := ⟨x.toNat, by omega⟩
    rw [if_pos c, if_neg (by decide), if_neg (by decide), e_hasPlot hp hy, e_misPlot hpm.1 hpm.2.1 hy, Option.bind_some, Option.bind_some]
    by_cases d : 0 ≤ y ∧ y < (P : Int)
    · obtain ⟨q, rfl⟩ : ∃ p : Nat, y = p := ⟨y.toNat, by omega⟩
      rw [if_pos d, if_neg (by decide), if_neg (by decide), e_qPlot h1 hp (show p < P by omega), e_mwhere hm hn hpm (show p < P by omega), Option.bind_some, Option.bind_some, e_qPlot h1 hp (show q < P by omega), e_mwhere hm hn hpm (show q < P by omega), Option.bind_some, Option.bind_some]
      have h6 := h1.2.1
      generalize hu : gw A B C n (X p) (Y p) = u
      generalize hv : gw A B C n (X q) (Y q) = v
      by_cases e1 : zI u = (-9 : Int32)
      · rw [if_pos e1, if_pos e1]
        exact ⟨_, _, _, rfl, rfl, hq⟩
      · rw [if_neg e1, if_neg e1]
        by_cases e2 : zI v = (-9 : Int32)
        · rw [if_pos e2, if_pos e2]
          exact ⟨_, _, _, rfl, rfl, hq⟩
        · rw [if_neg e2, if_neg e2]
          have g1 : ¬ gw_z A B C n (X p) (Y p) = true := fun z => e1 (by rw [← hu]; exact (gw_9 h6 _ _).mpr z)
          have g2 : ¬ gw_z A B C n (X q) (Y q) = true := fun z => e2 (by rw [← hv]; exact (gw_9 h6 _ _).mpr z)
          rw [← hu, ← hv, gw_n g1, gw_n g2, zI_xor]
          have b1 := gw_b_lt (A := A) (B := B) (C := C) h6 (X p) (Y p)
          have b2 := gw_b_lt (A := A) (B := B) (C := C) h6 (X q) (Y q)
          have b3 : gw_b A B C n (X p) (Y p) ^^^ gw_b A B C n (X q) (Y q) < 2 ^ 6 := Nat.xor_lt_two_pow b1 b2
          rw [e_icount _ (by omega)]
          exact ⟨_, _, _, rfl, rfl, hq⟩
    · rw [if_neg d, if_pos (show zI 0 = 0 from rfl), if_pos (show zI 0 = 0 from rfl)]
      exact st_no1 hq
  · rw [if_neg c, if_pos (show zI 0 = 0 from rfl), if_pos (show zI 0 = 0 from rfl)]
    exact st_no1 hq
theorem s_through (sc sm : XS) (x1 x2 x3 : Int32) (h : xz_RR sc sm) : ∃ (r : Int32) (sc2 sm2 : XS), F_All_through x1 x2 x3 sc = some (r, sc2) ∧ F_Mod_through x1 x2 x3 sm = some (r, sm2) ∧ xz_RR sc2 sm2 := by
  obtain ⟨a, ha, rfl⟩ := zI_of x1
  obtain ⟨b, hb, rfl⟩ := zI_of x2
  obtain ⟨x, hx, rfl⟩ := zI_of x3
  have hq := h
  obtain ⟨⟨n, A, B, C, Kd, P, X, Y, h1, hok, hpl, hkd, hp, hn, hm, hpm⟩, h2, h3, h4, h5⟩ := h
  have hw : F_All_whyNoLine (zI a) (zI b) (0 : Int32) = some (zI (gwhy a b 0)) := e_why (c := 0) ha hb (by decide)
  have ht := e_mthr ha hb (zI x) sm
  unfold fthr at ht
  unfold F_All_through F_Mod_through
  rw [e_hasPlot hp hx, e_misPlot hpm.1 hpm.2.1 hx, Option.bind_some, Option.bind_some]
  by_cases c : 0 ≤ x ∧ x < (P : Int)
  · obtain ⟨p, rfl⟩ : ∃ p : Nat, x = p := ⟨x.toNat, by omega⟩
    have h8 := hp.2.1
    obtain ⟨g1, g2, -, -⟩ := hp.2.2 p (by omega)
    obtain ⟨m1, m2, -, -⟩ := hpm.2.2 p (by omega)
    rw [if_pos c, if_neg (by decide), if_neg (by decide), hw, Option.bind_some, ht]
    rcases gwhy_or a b 0 with e | e | e | e <;> rw [e]
    · rw [if_neg (by decide), if_pos rfl]
      exact st_far4 hq
    · rw [if_neg (by decide), if_neg (by decide), if_pos rfl]
      exact st_far6 hq
    · rw [if_neg (by decide), if_neg (by decide), if_neg (by decide), if_pos rfl]
      exact st_far3 hq
    · rw [if_pos (show zI 0 = 0 from rfl), if_neg (by decide), if_neg (by decide), if_neg (by decide)]
      unfold F_Mod_through_m69
      rw [xo_rd_z (show p < 8 by omega) (by decide), Option.bind_some, xo_rd_z (show p < 8 by omega) (by decide), Option.bind_some, xo_rd_z (show p < 8 by omega) (by decide), Option.bind_some, xo_rd_z (show p < 8 by omega) (by decide), Option.bind_some, g1, g2, m1, m2]
      exact ⟨_, _, _, rfl, rfl, hq⟩
  · rw [if_neg c, if_pos (show zI 0 = 0 from rfl), if_pos (show zI 0 = 0 from rfl)]
    exact st_far1 hq
theorem s_count (sc sm : XS) (x1 : Int32) (h : xz_RR sc sm) : ∃ (r : Int32) (sc2 sm2 : XS), F_All_count x1 sc = some r ∧ F_Mod_count x1 sm = some r ∧ xz_RR sc2 sm2 ∧ sc = sc2 ∧ sm = sm2 := by
  obtain ⟨x, hx, rfl⟩ := zI_of x1
  have hq := h
  obtain ⟨⟨n, A, B, C, Kd, P, X, Y, h1, hok, hpl, hkd, hp, hn, hm, hpm⟩, ⟨l, hl, lc, lm, -⟩, ⟨r, hr, rc, rm, -⟩, h4, h5⟩ := h
  suffices hs : ∃ r, F_All_count (zI x) sc = some r ∧ F_Mod_count (zI x) sm = some r by
    obtain ⟨r, e1, e2⟩ := hs
    exact ⟨r, sc, sm, e1, e2, hq, rfl, rfl⟩
  unfold F_All_count F_Mod_count
  have hw : F_Mod_within (zI x) (11 : Int32) (16 : Int32) = some (zI (if 11 ≤ x ∧ x ≤ 16 then 1 else 0)) := e_mwithin (a := 11) (b := 16) hx (by decide) (by decide)
  have k0 : zI x = (0 : Int32) ↔ x = 0 := zi_eq hx (by decide) _ _ rfl rfl
  have k1 : zI x = (1 : Int32) ↔ x = 1 := zi_eq hx (by decide) _ _ rfl rfl
  have k2 : zI x = (2 : Int32) ↔ x = 2 := zi_eq hx (by decide) _ _ rfl rfl
  have k3 : zI x = (3 : Int32) ↔ x = 3 := zi_eq hx (by decide) _ _ rfl rfl
  have k4 : zI x < (11 : Int32) ↔ x < 11 := zi_lt hx (by decide) _ _ rfl rfl
  have k5 : (16 : Int32) < zI x ↔ 16 < x := zi_lt (by decide) hx _ _ rfl rfl
  rw [hw, Option.bind_some, h1.1, hp.1, hpm.1, hn, lc, lm, rc, rm]
  simp only [k0, k1, k2, k3, k4, k5]
  by_cases c0 : x = 0
  · rw [if_pos c0, if_pos c0]; exact ⟨_, rfl, rfl⟩
  rw [if_neg c0, if_neg c0]
  by_cases c1 : x = 1
  · rw [if_pos c1, if_pos c1]; exact ⟨_, rfl, rfl⟩
  rw [if_neg c1, if_neg c1]
  by_cases c2 : x = 2
  · rw [if_pos c2, if_pos c2]; exact ⟨_, rfl, rfl⟩
  rw [if_neg c2, if_neg c2]
  by_cases c3 : x = 3
  · rw [if_pos c3, if_pos c3]; exact ⟨_, rfl, rfl⟩
  rw [if_neg c3, if_neg c3]
  by_cases c4 : x < 11
  · rw [if_pos c4, if_neg (show ¬ (11 ≤ x ∧ x ≤ 16) by omega)]; exact ⟨_, rfl, rfl⟩
  rw [if_neg c4]
  by_cases c5 : 16 < x
  · rw [if_pos c5, if_neg (show ¬ (11 ≤ x ∧ x ≤ 16) by omega)]; exact ⟨_, rfl, rfl⟩
  obtain ⟨k, hk⟩ : ∃ k : Nat, x = k + 10 := ⟨(x - 10).toNat, by omega⟩
  have e : zI x - (10 : Int32) = zI (k : Int) := by
    rw [show (10 : Int32) = zI 10 from rfl, zI_sub]; congr 1; omega
  rw [if_neg c5, if_pos (show 11 ≤ x ∧ x ≤ 16 by omega), if_neg (show ¬ zI 1 = 0 by decide), e, xo_rd_z (by omega) (by decide), xo_rd_z (by omega) (by decide), h4 k (by omega)]
  exact ⟨_, rfl, rfl⟩
theorem s_row (sc sm : XS) (x1 : Int32) (h : xz_RR sc sm) : ∃ (r : Int32) (sc2 sm2 : XS), F_All_row x1 sc = some (r, sc2) ∧ F_Mod_row x1 sm = some (r, sm2) ∧ xz_RR sc2 sm2 := by
  obtain ⟨z, hz, rfl⟩ := zI_of x1
  have hq := h
  obtain ⟨⟨n, A, B, C, Kd, P, X, Y, h1⟩, h2, ⟨l, hl, c1, m1, hls⟩, h4, h5⟩ := h
  unfold F_All_row F_Mod_row F_All_row_m29 F_Mod_row_m26
  have k1 : (0 : Int32) ≤ zI z ↔ 0 ≤ z := zi_le (by decide) hz _ _ rfl rfl
  have k2 : (64 : Int32) ≤ zI z ↔ 64 ≤ z := zi_le (by decide) hz _ _ rfl rfl
  have k2' : (63 : Int32) < zI z ↔ 63 < z := zi_lt (by decide) hz _ _ rfl rfl
  have k3 : zI (l : Int) < (12 : Int32) ↔ (l : Int) < 12 := zi_lt (zB_n (by omega)) (by decide) _ _ rfl rfl
  have k4 : zI (l : Int) = (12 : Int32) ↔ (l : Int) = 12 := zi_eq (zB_n (by omega)) (by decide) _ _ rfl rfl
  rw [c1, m1]
  simp only [k1, k2, k2', k3, k4]
  by_cases z0 : 0 ≤ z
  · rw [if_pos z0, if_pos z0]
    by_cases z1 : 63 < z
    · rw [if_pos (show 64 ≤ z by omega), if_pos z1]
      exact st_no6 hq
    · rw [if_neg (show ¬ 64 ≤ z by omega), if_neg z1]
      by_cases hc : l < 12
      · rw [if_pos (show (l : Int) < 12 by omega), if_neg (show ¬ (l : Int) = 12 by omega), xo_ck_z hc (by decide), Option.bind_some, xo_nm_b, xo_nm_b, zI_cl (by omega), xo_nm_b, Option.bind_some, xo_nm_b, zI_suc]
        have e1 : (xs_A sc 31 (upd (sc.1 31) l (zI z))).1 0 7 = zI (l : Int) := by simp [xs_A, c1]
        rw [e1, zI_suc]
        have e2 : (xs_I (xs_A sc 31 (upd (sc.1 31) l (zI z))) 0 7 (zI ((l + 1 : Nat) : Int))).1 0 7 = zI ((l + 1 : Nat) : Int) := by simp [xs_I, upd]
        have e3 : (xs_A (xs_I sm 0 12 (zI ((l + 1 : Nat) : Int))) 13 (upd ((xs_I sm 0 12 (zI ((l + 1 : Nat) : Int))).1 13) l (zI z))).1 0 12 = zI ((l + 1 : Nat) : Int) := by simp [xs_A, xs_I, upd]
        rw [e2, e3]
        refine ⟨_, _, _, rfl, rfl, ?_⟩
        generalize hsc : xs_I (xs_A sc 31 (upd (sc.1 31) l (zI z))) 0 7 (zI ((l + 1 : Nat) : Int)) = sc2
        generalize hsm : xs_A (xs_I sm 0 12 (zI ((l + 1 : Nat) : Int))) 13 (upd ((xs_I sm 0 12 (zI ((l + 1 : Nat) : Int))).1 13) l (zI z)) = sm2
        have hcc : ∀ k, k ≠ 0 → k ≠ 31 → sc2.1 k = sc.1 k := fun k g1 g2 => by rw [← hsc]; simp [xs_A, xs_I, g1, g2]
        have hc0 : ∀ j, j ≠ 7 → sc2.1 0 j = sc.1 0 j := fun j g1 => by rw [← hsc]; simp [xs_A, xs_I, upd, g1]
        have hcl : sc2.2 = sc.2 := by rw [← hsc]; rfl
        have hmm : ∀ k, k ≠ 0 → k ≠ 13 → sm2.1 k = sm.1 k := fun k g1 g2 => by rw [← hsm]; simp [xs_A, xs_I, g1, g2]
        have hm0 : ∀ j, j ≠ 12 → sm2.1 0 j = sm.1 0 j := fun j g1 => by rw [← hsm]; simp [xs_A, xs_I, upd, g1]
        refine ⟨⟨n, A, B, C, Kd, P, X, Y, xR_of h1 (fun k _ _ => hcc k (by omega) (by omega)) (fun k _ _ => hcc k (by omega) (by omega)) hcl (hm0 0 (by omega)) (hm0 5 (by omega)) (fun k _ => hmm k (by omega) (by omega)) (fun s _ => by rw [hmm 2 (by omega) (by omega), hmm 3 (by omega) (by omega), hmm 4 (by omega) (by omega)]; exact ⟨rfl, rfl, rfl⟩)⟩, xT_of h2 (by rw [hcc 28 (by omega) (by omega)]) (hcc 29 (by omega) (by omega)) (hm0 8 (by omega)) (hmm 9 (by omega) (by omega)), ⟨l + 1, by omega, ?_, ?_, fun i hi => ?_⟩, xF_of h4 (hcc 32 (by omega) (by omega)) (hmm 14 (by omega) (by omega)), xI_of h5 (hc0 3 (by omega)) (hm0 15 (by omega)) (fun k _ _ => hcc k (by omega) (by omega)) (hmm 16 (by omega) (by omega))⟩
        · rw [← hsc]; simp [xs_I, upd]
        · rw [← hsm]; simp [xs_A, xs_I, upd]
        · by_cases e : i = l
          · subst e
            refine ⟨z.toNat, by omega, ?_, ?_⟩
            · rw [← hsc, show ((z.toNat : Nat) : Int) = z by omega]; simp [xs_A, xs_I, upd]
            · rw [← hsm, show ((z.toNat : Nat) : Int) = z by omega]; simp [xs_A, xs_I, upd]
          · obtain ⟨c, g1, g2, g3⟩ := hls i (by omega)
            refine ⟨c, g1, ?_, ?_⟩
            · rw [← hsc]; simpa [xs_A, xs_I, upd, e] using g2
            · rw [← hsm]; simpa [xs_A, xs_I, upd, e] using g3
      · rw [if_neg (show ¬ (l : Int) < 12 by omega), if_pos (show (l : Int) = 12 by omega)]
        exact st_no6 hq
  · rw [if_neg z0, if_neg z0]
    exact st_no4 hq
