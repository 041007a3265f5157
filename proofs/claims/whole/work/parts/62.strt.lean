/-! streets, all lamps -/
theorem s_street (sc sm : XS) (x1 x2 : Int32) (h : xz_RR sc sm) : ∃ (r : Int32) (sc2 sm2 : XS), F_All_street x1 x2 sc = some (r, sc2) ∧ F_Mod_street x1 x2 sm = some (r, sm2) ∧ xz_RR sc2 sm2 := by
  obtain ⟨x, hx, rfl⟩ := zI_of x1
  obtain ⟨y, hy, rfl⟩ := zI_of x2
  have hq := h
  obtain ⟨⟨n, A, B, C, Kd, P, X, Y, hc, hok, hpl, hkd, hp, hn, hm, hpm⟩, h2, h3, h4, h5⟩ := h
  have h6 := hc.2.1
  unfold F_All_street F_Mod_street
  have k0 : zI y = (0 : Int32) ↔ y = 0 := zi_eq hy (by decide) _ _ rfl rfl
  have k1 : zI y = (1 : Int32) ↔ y = 1 := zi_eq hy (by decide) _ _ rfl rfl
  have k2 : zI y = (2 : Int32) ↔ y = 2 := zi_eq hy (by decide) _ _ rfl rfl
  have k3 : zI y = (3 : Int32) ↔ y = 3 := zi_eq hy (by decide) _ _ rfl rfl
  have k4 : zI y = (4 : Int32) ↔ y = 4 := zi_eq hy (by decide) _ _ rfl rfl
  rw [e_hasStreet hc hx, e_misStreet hn (by omega) hx, Option.bind_some, Option.bind_some]
  simp only [k0, k1, k2, k3, k4]
  by_cases c : 0 ≤ x ∧ x < (n : Int)
  · obtain ⟨s, rfl⟩ : ∃ p : Nat, x = p := ⟨x.toNat, by omega⟩
    have hs : s < n := by omega
    obtain ⟨c1, c2, c3⟩ := hc.2.2.1 s hs
    obtain ⟨m1, m2, m3⟩ := hm.2.1 s hs
    obtain ⟨d1, d2, d3⟩ := hkd s hs
    rw [if_pos c, if_neg (show ¬ zI 1 = 0 by decide), if_neg (show ¬ zI 1 = 0 by decide)]
    by_cases c0 : y = 0
    · rw [if_pos c0, if_pos c0, xo_rd_z (show s < 6 by omega) (by decide), xo_rd_z (show s < 7 by omega) (by decide), d1, d2]
      exact ⟨_, _, _, rfl, rfl, hq⟩
    rw [if_neg c0, if_neg c0]
    by_cases c1' : y = 1
    · rw [if_pos c1', if_pos c1', xo_rd_z (show s < 6 by omega) (by decide), xo_rd_z (show s < 7 by omega) (by decide), c1, m1]
      exact ⟨_, _, _, rfl, rfl, hq⟩
    rw [if_neg c1', if_neg c1']
    by_cases c2' : y = 2
    · rw [if_pos c2', if_pos c2', xo_rd_z (show s < 6 by omega) (by decide), xo_rd_z (show s < 7 by omega) (by decide), c2, m2]
      exact ⟨_, _, _, rfl, rfl, hq⟩
    rw [if_neg c2', if_neg c2']
    by_cases c3' : y = 3
    · rw [if_pos c3', if_pos c3', xo_rd_z (show s < 6 by omega) (by decide), xo_rd_z (show s < 7 by omega) (by decide), c3, m3]
      exact ⟨_, _, _, rfl, rfl, hq⟩
    rw [if_neg c3', if_neg c3']
    by_cases c4' : y = 4
    · rw [if_pos c4', if_pos c4', e_lampsFrom hc hpl.1 hs d1 d3, e_mlampsOf hm hn hs d2 d3]
      exact ⟨_, _, _, rfl, rfl, hq⟩
    rw [if_neg c4', if_neg c4']
    exact st_far2 hq
  · rw [if_neg c, if_pos (show zI 0 = 0 from rfl), if_pos (show zI 0 = 0 from rfl)]
    exact st_far1 hq
theorem s_lamps (sc sm : XS) (h : xz_RR sc sm) : ∃ (r : Int32) (sc2 sm2 : XS), F_All_lamps sc = some r ∧ F_Mod_lamps sm = some r ∧ xz_RR sc2 sm2 ∧ sc = sc2 ∧ sm = sm2 := by
  have hq := h
  obtain ⟨⟨n, A, B, C, Kd, P, X, Y, hc, hok, hpl, hkd, hp, hn, hm, hpm⟩, h2, h3, h4, h5⟩ := h
  have h6 := hc.2.1
  refine ⟨zI ((fb_sm (fun s => ls_sm (gl_x A B C n (Kd s) s) (gp_ls A B C n n)) n : Nat) : Int), sc, sm, ?_, ?_, hq, rfl, rfl⟩
  · unfold F_All_lamps
    refine (lp_go (fun i => (zI ((fb_sm (fun s => ls_sm (gl_x A B C n (Kd s) s) (gp_ls A B C n n)) i : Nat) : Int), zI (i : Int))) n (zI ((fb_sm (fun s => ls_sm (gl_x A B C n (Kd s) s) (gp_ls A B C n n)) n : Nat) : Int)) (by rfl) (by omega) (fun s hs => ?_) ?_).trans rfl
    · obtain ⟨d1, d2, d3⟩ := hkd s hs
      unfold F_All_lamps_b4
      dsimp only
      rw [hc.1, if_neg (zI_ge1 (by omega) hs), e_lampsFrom hc hpl.1 hs d1 d3, Option.bind_some, xo_nm_b, xo_nm_b, zI_suc, zI_addn, fb_sm_succ]
    · unfold F_All_lamps_b4
      dsimp only
      rw [hc.1, if_pos (zI_rfl _)]
  · unfold F_Mod_lamps
    refine (lp_go (fun i => (zI ((fb_sm (fun s => ls_sm (gl_x A B C n (Kd s) s) (gp_ls A B C n n)) i : Nat) : Int), zI (i : Int))) n (zI ((fb_sm (fun s => ls_sm (gl_x A B C n (Kd s) s) (gp_ls A B C n n)) n : Nat) : Int)) (by rfl) (by omega) (fun s hs => ?_) ?_).trans rfl
    · obtain ⟨d1, d2, d3⟩ := hkd s hs
      unfold F_Mod_lamps_b4
      dsimp only
      rw [hn, if_neg (zI_ge1 (by omega) hs), e_mlampsOf hm hn hs d2 d3, Option.bind_some, xo_nm_b, xo_nm_b, zI_suc, zI_addn, fb_sm_succ]
    · unfold F_Mod_lamps_b4
      dsimp only
      rw [hn, if_pos (zI_rfl _)]
