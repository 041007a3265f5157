/-! streets taken up: both alike -/
theorem e_mwithout {sm : XS} {n s : Nat} {A B C : Nat → Int} (h6 : n ≤ 6) (hok : gz_ok A B n) (hm : mL sm n A B C) (hn : sm.1 0 0 = zI (n : Int)) (hs : s < n) : ∃ t, F_Mod_without (zI (s : Int)) sm = some (zI ((fb_ct (gq_W (gq_Q A B C n n) s 64) 64 : Nat) : Int), t) ∧ mS n sm t := by
  obtain ⟨s1, s2, s3⟩ := hm.2.1 s hs
  obtain ⟨l1, l2, l3⟩ := hm.2.1 (n - 1) (by omega)
  have e1 : zI (n : Int) - (1 : Int32) = zI ((n - 1 : Nat) : Int) := zI_prd (by omega)
  unfold F_Mod_without
  rw [xo_rd_z (show s < 7 by omega) (by decide), Option.bind_some, xo_rd_z (show s < 7 by omega) (by decide), Option.bind_some, xo_rd_z (show s < 7 by omega) (by decide), Option.bind_some, xo_nm_b, hn, e1, xo_rd_z (show n - 1 < 7 by omega) (by decide), Option.bind_some, xo_ck_z (show s < 7 by omega) (by decide), Option.bind_some, xo_nm_b, zI_cl (by omega)]
  rw [xo_rd_z (show n - 1 < 7 by omega) (by decide), Option.bind_some, Option.bind_some, xo_nm_b, xo_rd_z (show n - 1 < 7 by omega) (by decide), Option.bind_some, Option.bind_some, xo_nm_b, s1, s2, s3, l1]
  have e3 : (xs_A sm 2 (upd (sm.1 2) s (zI (A (n - 1))))).1 3 = sm.1 3 := xs_A_n (by decide)
  have e4 : ∀ f g : Nat → Int32, (xs_A (xs_A sm 2 f) 3 g).1 4 = sm.1 4 := fun f g => by rw [xs_A_n (by decide), xs_A_n (by decide)]
  rw [e3, l2, e4, l3]
  generalize ht : xs_A (xs_A (xs_A sm 2 (upd (sm.1 2) s (zI (A (n - 1))))) 3 (upd (sm.1 3) s (zI (B (n - 1))))) 4 (upd (sm.1 4) s (zI (C (n - 1)))) = t
  have t2 : t.1 2 = upd (sm.1 2) s (zI (A (n - 1))) := by rw [← ht, xs_A_n (by decide), xs_A_n (by decide), xs_A_e]
  have t3 : t.1 3 = upd (sm.1 3) s (zI (B (n - 1))) := by rw [← ht, xs_A_n (by decide), xs_A_e]
  have t4 : t.1 4 = upd (sm.1 4) s (zI (C (n - 1))) := by rw [← ht, xs_A_e]
  have to : ∀ k, k ≠ 2 → k ≠ 3 → k ≠ 4 → t.1 k = sm.1 k := fun k h2 h3 h4 => by rw [← ht, xs_A_n h4, xs_A_n h3, xs_A_n h2]
  have hmt : mL t (n - 1) (sw A n s) (sw B n s) (sw C n s) := by
    refine ⟨by omega, fun u hu => ?_, sw_gB hm.2.2⟩
    rw [t2, t3, t4]
    unfold sw swf
    by_cases e : u = s
    · subst e
      rw [upd_e, upd_e, upd_e, if_pos rfl]
      exact ⟨rfl, rfl, rfl⟩
    · rw [upd_n e, upd_n e, upd_n e, if_neg e]
      exact hm.2.1 u (by omega)
  obtain ⟨u, g1, g2⟩ := e_layL hmt
  rw [g1, Option.bind_some, e_mhow (by omega) g2, Option.bind_some, how_Q (by omega) (sw_ok hok), sw_ct h6 hok hs]
  simp only [Option.bind_some, xo_nm_b]
  refine ⟨_, rfl, ?_⟩
  have uo : ∀ k, k ≠ 0 → k ≠ 18 → k ≠ 19 → u.1 k = t.1 k := g2.1.2.1
  have u0 : ∀ j, j < 20 → u.1 0 j = t.1 0 j := g2.1.2.2
  have hfin : ∀ f g h : Nat → Int32, ∀ k, k ≠ 2 → k ≠ 3 → k ≠ 4 → (xs_A (xs_A (xs_A u 2 f) 3 g) 4 h).1 k = u.1 k := fun f g h k h2 h3 h4 => by rw [xs_A_n h4, xs_A_n h3, xs_A_n h2]
  refine ⟨fun k hk => ?_, fun j hj => ?_, fun v hv => ?_⟩
  · rw [hfin _ _ _ k (by omega) (by omega) (by omega), uo k (by omega) (by omega) (by omega), to k (by omega) (by omega) (by omega)]
  · rw [hfin _ _ _ 0 (by omega) (by omega) (by omega), u0 j hj, to 0 (by omega) (by omega) (by omega)]
  · have f2 : ∀ f g h : Nat → Int32, (xs_A (xs_A (xs_A u 2 f) 3 g) 4 h).1 2 = f := fun f g h => by rw [xs_A_n (by decide), xs_A_n (by decide), xs_A_e]
    have f3 : ∀ f g h : Nat → Int32, (xs_A (xs_A (xs_A u 2 f) 3 g) 4 h).1 3 = g := fun f g h => by rw [xs_A_n (by decide), xs_A_e]
    have f4 : ∀ f g h : Nat → Int32, (xs_A (xs_A (xs_A u 2 f) 3 g) 4 h).1 4 = h := fun f g h => xs_A_e _ _ _
    have h3 : ∀ f : Nat → Int32, (xs_A u 2 f).1 3 = u.1 3 := fun f => xs_A_n (by decide)
    have h4 : ∀ f g : Nat → Int32, (xs_A (xs_A u 2 f) 3 g).1 4 = u.1 4 := fun f g => by rw [xs_A_n (by decide), xs_A_n (by decide)]
    rw [f2, f3, f4, h3, h4, uo 2 (by omega) (by omega) (by omega), uo 3 (by omega) (by omega) (by omega), uo 4 (by omega) (by omega) (by omega), t2, t3, t4]
    by_cases e : v = s
    · subst e
      rw [upd_e, upd_e, upd_e]
      exact ⟨s1.symm, s2.symm, s3.symm⟩
    · rw [upd_n e, upd_n e, upd_n e, upd_n e, upd_n e, upd_n e]
      exact ⟨rfl, rfl, rfl⟩
def bd (W : Nat → Nat) : Nat → Int × Nat
  | 0 => (-9, 65)
  | i + 1 => if W i < (bd W i).2 then ((i : Int), W i) else bd W i
theorem bd_suc (W : Nat → Nat) (i : Nat) : bd W (i + 1) = if W i < (bd W i).2 then ((i : Int), W i) else bd W i := rfl
theorem bd_ok {W : Nat → Nat} (h : ∀ k, W k ≤ 64) : ∀ i, (bd W i).2 ≤ 65 ∧ -9 ≤ (bd W i).1 ∧ (bd W i).1 < (i : Int) + 1 ∧ (0 < i → 0 ≤ (bd W i).1) ∧ (i = 0 → bd W i = (-9, 65))
  | 0 => ⟨Nat.le_refl 65, (show (-9 : Int) ≤ -9 by decide), (show (-9 : Int) < ((0 : Nat) : Int) + 1 by decide), fun z => absurd z (by decide), fun _ => rfl⟩
  | i + 1 => by
    have h1 := bd_ok h i
    have h2 := h i
    rw [bd_suc]
    by_cases hc : W i < (bd W i).2
    · rw [if_pos hc]
      exact ⟨by dsimp only; omega, by dsimp only; omega, by dsimp only; omega, fun _ => by dsimp only; omega, fun z => by omega⟩
    · rw [if_neg hc]
      have h0 : i ≠ 0 := fun e => by
        have := h1.2.2.2.2 e
        rw [this] at hc
        dsimp only at hc
        omega
      exact ⟨h1.1, h1.2.1, by omega, fun _ => h1.2.2.2.1 (by omega), fun z => by omega⟩
def wo (A B C : Nat → Int) (n s : Nat) : Nat := fb_ct (gq_W (gq_Q A B C n n) s 64) 64
theorem wo_le (A B C : Nat → Int) (n s : Nat) : wo A B C n s ≤ 64 := fb_ct_le _ 64
theorem e_dearest {sc : XS} {n : Nat} {A B C : Nat → Int} (hc : cL sc n A B C) (hQ : sc.2 0 = lS (gq_Q A B C n n)) : F_All_dearestStreet sc = some (zI (bd (wo A B C n) n).1) := by
  have h6 := hc.2.1
  unfold F_All_dearestStreet
  refine (lp_go (fun i => (zI (bd (wo A B C n) i).1, zI (((bd (wo A B C n) i).2 : Nat) : Int), zI (i : Int))) n (zI (bd (wo A B C n) n).1) (by rfl) (by omega) (fun i hi => ?_) ?_).trans rfl
  · unfold F_All_dearestStreet_b8
    dsimp only
    have hw : F_Pla_quartersWithout (zI (i : Int)) sc = some (zI ((wo A B C n i : Nat) : Int)) := e_qWithout hQ (by omega)
    obtain ⟨b1, -⟩ := bd_ok (wo_le A B C n) i
    have b2 := wo_le A B C n i
    rw [hc.1, if_neg (zI_ge1 (by omega) hi), hw, Option.bind_some, bd_suc]
    simp only [xo_nm_b, zI_suc]
    by_cases hl : wo A B C n i < (bd (wo A B C n) i).2
    · rw [if_neg (by rw [zI_le (zB_n (by omega)) (zB_n (by omega))]; omega), if_pos hl]
    · rw [if_pos (by rw [zI_le (zB_n (by omega)) (zB_n (by omega))]; omega), if_neg hl]
  · unfold F_All_dearestStreet_b8
    dsimp only
    rw [hc.1, if_pos (zI_rfl _)]
theorem e_mdearest {sm : XS} {n : Nat} {A B C : Nat → Int} (h6 : n ≤ 6) (hok : gz_ok A B n) (hm : mL sm n A B C) (hn : sm.1 0 0 = zI (n : Int)) : ∃ r, xo_lp (fun q : (Int32 × Int32 × Int32 × XS) => F_Mod_taken_b35 q.1 q.2.1 q.2.2.1 q.2.2.2) 1000000 ((-9 : Int32), (0 : Int32), (0 : Int32), sm) = some r ∧ r.1 = zI (bd (wo A B C n) n).1 ∧ mS n sm r.2 := by
  refine lp_inv (fun (i : Nat) (x : Int32 × Int32 × Int32 × XS) => x.1 = zI (bd (wo A B C n) i).1 ∧ (0 < i → x.2.1 = zI (((bd (wo A B C n) i).2 : Nat) : Int)) ∧ x.2.2.1 = zI (i : Int) ∧ mS n sm x.2.2.2) _ n 1000000 _ (by omega) ⟨rfl, fun z => absurd z (Nat.lt_irrefl 0), rfl, mS_rfl n sm⟩ ?_ ?_
  · rintro i ⟨x, y, z, t⟩ hi ⟨e1, e2, e3, e4⟩
    dsimp only at e1 e2 e3 e4 ⊢
    subst e1; subst e3
    unfold F_Mod_taken_b35 F_Mod_taken_m65
    have hnt : t.1 0 0 = zI (n : Int) := (e4.2.1 0 (by omega)).trans hn
    obtain ⟨t2, g1, g2⟩ := e_mwithout h6 hok (mL_S hm e4) hnt hi
    have g1' : F_Mod_without (zI (i : Int)) t = some (zI ((wo A B C n i : Nat) : Int), t2) := g1
    have hS := mS_trans e4 g2
    obtain ⟨b1, b3, b4, b5, b6⟩ := bd_ok (wo_le A B C n) i
    have b2 := wo_le A B C n i
    rw [hnt, if_neg (zI_ge1 (by omega) hi), g1']
    unfold xo_bn
    rw [Option.bind_some]
    dsimp only
    simp only [xo_nm_b, zI_suc]
    rw [bd_suc]
    by_cases h0 : i = 0
    · have b7 := b6 h0
      rw [b7, if_pos (show zI (-9) < (0 : Int32) by decide), if_pos (show wo A B C n i < 65 by omega)]
      exact ⟨_, rfl, rfl, fun _ => rfl, rfl, hS⟩
    · have b8 := b5 (by omega)
      rw [e2 (by omega), if_neg (by rw [zI_0, zI_lt ⟨by omega, by omega⟩ (by decide)]; omega)]
      by_cases hl : wo A B C n i < (bd (wo A B C n) i).2
      · rw [if_pos (by rw [zI_lt (zB_n (by omega)) (zB_n (by omega))]; omega), if_pos hl]
        exact ⟨_, rfl, rfl, fun _ => rfl, rfl, hS⟩
      · rw [if_neg (by rw [zI_lt (zB_n (by omega)) (zB_n (by omega))]; omega), if_neg hl]
        exact ⟨_, rfl, rfl, fun _ => rfl, rfl, hS⟩
  · rintro ⟨x, y, z, t⟩ ⟨e1, e2, e3, e4⟩
    dsimp only at e1 e2 e3 e4 ⊢
    subst e1; subst e3
    unfold F_Mod_taken_b35
    have hnt : t.1 0 0 = zI (n : Int) := (e4.2.1 0 (by omega)).trans hn
    rw [hnt, if_pos (zI_rfl _)]
    exact ⟨_, rfl, rfl, e4⟩
theorem s_taken (sc sm : XS) (x1 : Int32) (h : xz_RR sc sm) : ∃ (r : Int32) (sc2 sm2 : XS), F_All_taken x1 sc = some (r, sc2) ∧ F_Mod_taken x1 sm = some (r, sm2) ∧ xz_RR sc2 sm2 := by
  obtain ⟨x, hx, rfl⟩ := zI_of x1
  have hq := h
  obtain ⟨⟨n, A, B, C, Kd, P, X, Y, hc, hok, hpl, hkd, hp, hn, hm, hpm⟩, h2, h3, h4, h5⟩ := h
  have h6 := hc.2.1
  unfold F_All_taken F_Mod_taken
  by_cases c1 : x = -1
  · subst c1
    rw [if_pos (show zI (-1) = (-1 : Int32) from rfl), if_pos (show zI (-1) = (-1 : Int32) from rfl), e_dearest hc hpl.2.1]
    obtain ⟨⟨v, t⟩, g1, g2, g3⟩ := e_mdearest h6 hok hm hn
    dsimp only at g2 g3
    rw [g1, Option.bind_some, Option.bind_some, g2]
    exact ⟨_, sc, t, rfl, rfl, RR_S hq hn (by omega) g3⟩
  · have hne : ¬ zI x = (-1 : Int32) := by
      rw [show (-1 : Int32) = zI (-1) from rfl, zI_eq hx (by decide)]; exact c1
    rw [if_neg hne, if_neg hne, e_hasStreet hc hx, e_misStreet hn (by omega) hx, Option.bind_some, Option.bind_some]
    by_cases c : 0 ≤ x ∧ x < (n : Int)
    · obtain ⟨s, rfl⟩ : ∃ p : Nat, x = p := ⟨x.toNat, by omega⟩
      obtain ⟨t, g1, g2⟩ := e_mwithout h6 hok hm hn (show s < n by omega)
      rw [if_pos c, if_neg (by decide), if_neg (by decide), e_qWithout hpl.2.1 (show s < 6 by omega), g1]
      exact ⟨_, sc, t, rfl, rfl, RR_S hq hn (by omega) g2⟩
    · rw [if_neg c, if_pos (show zI 0 = 0 from rfl), if_pos (show zI 0 = 0 from rfl)]
      exact st_no1 hq
