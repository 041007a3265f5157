/-! a town told -/
theorem e_run2 {sc sm : XS} {L : Nat → Nat} {l m : Nat} (hC : lC sc L l) (hM : lM sm L l) (hm : m ≤ l) (hS : pS L l m) : ∀ (d k : Nat) (tc tm : XS) (fuel : Nat), k + d = m → d < fuel → zS sc sm (pos L l k) tc tm → (∃ (v : Nat) (tc' tm' : XS), xo_lp (fun q : (Int32 × XS) => F_Let_readInto_b18 (zI (m : Int)) q.1 q.2) fuel (zI (k : Int), tc) = some (.inl (zI (v : Int), tc')) ∧ xo_lp (fun q : (Int32 × XS) => F_Mod_town_b86 q.1 q.2) fuel (zI (k : Int), tm) = some (.inl (zI (v : Int), tm')) ∧ v ≤ l ∧ fC sc tc' ∧ fM sm tm') ∨ (∃ tc' tm' : XS, xo_lp (fun q : (Int32 × XS) => F_Let_readInto_b18 (zI (m : Int)) q.1 q.2) fuel (zI (k : Int), tc) = some (.inr tc') ∧ xo_lp (fun q : (Int32 × XS) => F_Mod_town_b86 q.1 q.2) fuel (zI (k : Int), tm) = some (.inr (zI (m : Int), tm')) ∧ zS sc sm l tc' tm') := by
  intro d
  induction d with
  | zero =>
    intro k tc tm fuel hk hf hz
    obtain ⟨f, rfl⟩ : ∃ f, fuel = f + 1 := ⟨fuel - 1, by omega⟩
    obtain rfl : k = m := by omega
    rw [hS.2.2.2] at hz
    refine Or.inr ⟨tc, tm, ?_, ?_, hz⟩
    · refine lp_e1 ?_
      dsimp only
      unfold F_Let_readInto_b18
      rw [if_pos (zI_rfl _)]
    · refine lp_e1 ?_
      dsimp only
      unfold F_Mod_town_b86
      rw [(lM_f hM hz.2.2.2.1).2.1, hz.2.1, if_pos (zI_rfl _)]
  | succ d ih =>
    intro k tc tm fuel hk hf hz
    obtain ⟨f, rfl⟩ : ∃ f, fuel = f + 1 := ⟨fuel - 1, by omega⟩
    rcases e_step2 hC hM hm (show k < m by omega) (hS.2.1 k (by omega)) hz with ⟨tc', tm', h1, h2, h3, h4⟩ | ⟨tc', tm', h1, h2, h3⟩
    · exact Or.inl ⟨pos L l k, tc', tm', lp_e1 h1, lp_e1 h2, pos_le L l k, h3, h4⟩
    · have i := ih (k + 1) tc' tm' f (by omega) (by omega) h3
      rw [lp_s1 (f := fun q : (Int32 × XS) => F_Let_readInto_b18 (zI (m : Int)) q.1 q.2) (x := (zI (k : Int), tc)) h1, lp_s1 (f := fun q : (Int32 × XS) => F_Mod_town_b86 q.1 q.2) (x := (zI (k : Int), tm)) h2]
      exact i
theorem cS_set (st : XS) (a : Nat) : xs_I st 28 2 (zI (a : Int)) = cS st a (st.1 28 3) (st.1 30) := by
  unfold cS xs_I
  refine Prod.ext ?_ rfl
  funext c
  dsimp only
  by_cases e : c = 28
  · subst e
    rw [if_pos rfl, if_pos rfl]
    funext j
    unfold upd
    by_cases e2 : j = 2
    · subst e2; rw [if_pos rfl, if_pos rfl]
    · rw [if_neg e2, if_neg e2]
      by_cases e3 : j = 3
      · subst e3; rw [if_pos rfl]
      · rw [if_neg e3]
  · rw [if_neg e, if_neg e]
    by_cases e3 : c = 30
    · subst e3; rw [if_pos rfl]
    · rw [if_neg e3]
theorem mT_set (st : XS) (a : Nat) : xs_I st 0 10 (zI (a : Int)) = mT st a (st.1 11) := by
  unfold mT xs_I
  refine Prod.ext ?_ rfl
  funext c
  dsimp only
  by_cases e : c = 0
  · subst e
    rw [if_pos rfl, if_pos rfl]
    funext j
    unfold upd
    by_cases e2 : j = 10
    · subst e2; rw [if_pos rfl]
    · rw [if_neg e2]
  · rw [if_neg e, if_neg e]
    by_cases e3 : c = 11
    · subst e3; rw [if_pos rfl]
    · rw [if_neg e3]
theorem RR_fin {sc sm tc tm : XS} (h : xz_RR sc sm) (hR : ∃ n A B C Kd P X Y, xR tc tm n A B C Kd P X Y) (c0 : tc.1 0 = sc.1 0) (c28 : tc.1 28 1 = 0) (cc : ∀ k, (15 ≤ k ∧ k ≤ 21) ∨ k = 31 ∨ k = 32 → tc.1 k = sc.1 k) (m8 : tm.1 0 8 = 0) (m0 : ∀ j, j = 12 ∨ j = 15 → tm.1 0 j = sm.1 0 j) (mm : ∀ k, k = 13 ∨ k = 14 ∨ k = 16 → tm.1 k = sm.1 k) : xz_RR tc tm := by
  obtain ⟨-, h2, h3, h4, h5⟩ := h
  exact ⟨hR, ⟨0, by omega, c28, m8, fun i hi => absurd hi (Nat.not_lt_zero i)⟩, xW_of h3 (by rw [c0]) (cc 31 (by omega)) (m0 12 (by omega)) (mm 13 (by omega)), xF_of h4 (cc 32 (by omega)) (mm 14 (by omega)), xI_of h5 (by rw [c0]) (m0 15 (by omega)) (fun k h1 h2 => cc k (by omega)) (mm 16 (by omega))⟩
/-- the town as it was: also where places were written and written back -/
theorem xR_back {sc sm tc tm : XS} {n : Nat} {A B C : Nat → Int} {Kd : Nat → Nat} {P : Nat} {X Y : Nat → Int} (h : xR sc sm n A B C Kd P X Y) (e1 : ∀ k, 1 ≤ k → k ≤ 7 → tc.1 k = sc.1 k) (e2 : ∀ k, 22 ≤ k → k ≤ 27 → tc.1 k = sc.1 k) (e3 : tc.2 = sc.2) (f0 : tm.1 0 0 = sm.1 0 0) (f5 : tm.1 0 5 = sm.1 0 5) (f2 : ∀ s, s < 6 → tm.1 1 s = sm.1 1 s ∧ tm.1 2 s = sm.1 2 s ∧ tm.1 3 s = sm.1 3 s ∧ tm.1 4 s = sm.1 4 s) (f6 : ∀ p, p < 8 → tm.1 6 p = sm.1 6 p ∧ tm.1 7 p = sm.1 7 p) : xR tc tm n A B C Kd P X Y := by
  obtain ⟨h1, h2, h3, h4, h5, h6, h7, h8⟩ := h
  have hn6 := h1.2.1
  have hP8 := h5.2.1
  refine ⟨?_, h2, gPl_of h3 e2 e3, fun s hs => ?_, ?_, f0.trans h6, ⟨h7.1, fun s hs => ?_, h7.2.2⟩, f5.trans h8.1, hP8, fun p hp => ?_⟩
  · unfold cL at *
    rw [e1 1 (by omega) (by omega), e1 3 (by omega) (by omega), e1 4 (by omega) (by omega), e1 5 (by omega) (by omega)]; exact h1
  · rw [e1 2 (by omega) (by omega), (f2 s (by omega)).1]; exact h4 s hs
  · unfold pL at *
    rw [e1 1 (by omega) (by omega), e1 6 (by omega) (by omega), e1 7 (by omega) (by omega)]; exact h5
  · obtain ⟨-, g1, g2, g3⟩ := f2 s (by omega)
    rw [g1, g2, g3]; exact h7.2.1 s hs
  · obtain ⟨g1, g2⟩ := f6 p (by omega)
    rw [g1, g2]; exact h8.2.2 p hp
theorem s_town (sc sm : XS) (h : xz_RR sc sm) : ∃ (r : Int32) (sc2 sm2 : XS), F_All_town sc = some (r, sc2) ∧ F_Mod_town sm = some (r, sm2) ∧ xz_RR sc2 sm2 := by
  have hq := h
  obtain ⟨⟨n, A, B, C, Kd, P, X, Y, hR⟩, ⟨l, hl, lc, lm, hls⟩, h3, h4, h5⟩ := h
  have hR0 := hR
  obtain ⟨hc, hok, hpl, hkd, hp, hn, hm, hpm⟩ := hR
  obtain ⟨t1, g1, a1, a2, a3, a4, a5, a6⟩ := e_copy sc
  have hn6 := hc.2.1
  have hP8 := hp.2.1
  -- the letters
  have hL : ∀ i, i < l → (sc.1 29 i).toNatClampNeg < 256 ∧ sc.1 29 i = zI ((sc.1 29 i).toNatClampNeg : Int) ∧ sm.1 9 i = zI ((sc.1 29 i).toNatClampNeg : Int) := fun i hi => by
    obtain ⟨c, e1, e2, e3⟩ := hls i hi
    rw [e2, e3, zI_cl (by omega)]
    exact ⟨e1, rfl, rfl⟩
  generalize hLd : (fun i => (sc.1 29 i).toNatClampNeg) = L
  have hLi : ∀ i, (sc.1 29 i).toNatClampNeg = L i := fun i => by rw [← hLd]
  have hCt1 : lC t1 L l := ⟨hl, by rw [a2 28 (by omega), lc], fun i hi => by
    rw [a2 29 (by omega), ← hLi]
    exact ⟨(hL i hi).1, (hL i hi).2.1⟩⟩
  have hMsm : lM sm L l := ⟨hl, lm, fun i hi => by
    rw [← hLi]
    exact ⟨(hL i hi).1, (hL i hi).2.2⟩⟩
  have hD : dD n A B C Kd P X Y := ⟨hn6, hP8, hc.2.2.2, hok, fun s hs => (hkd s hs).2.2, fun p hpp => ⟨(hp.2.2 p hpp).2.2.1, (hp.2.2 p hpp).2.2.2⟩⟩
  have hdC : dC t1 n A B C Kd P X Y := ⟨a3.trans hc.1, a4.trans hp.1, fun s hs => by
    obtain ⟨q1, q2, q3, q4⟩ := a5 s (by omega)
    obtain ⟨l1, l2, l3⟩ := hc.2.2.1 s hs
    exact ⟨q1.trans (hkd s hs).1, q2.trans l1, q3.trans l2, q4.trans l3⟩, fun p hpp => by
    obtain ⟨q1, q2⟩ := a6 p (by omega)
    exact ⟨q1.trans (hp.2.2 p hpp).1, q2.trans (hp.2.2 p hpp).2.1⟩⟩
  unfold F_All_town F_Let_readInto F_Let_readAll F_Mod_town
  have e0 : (0 : Int32) = zI ((0 : Nat) : Int) := rfl
  have hs1 : xs_I t1 28 2 (0 : Int32) = cS t1 0 (t1.1 28 3) (t1.1 30) := cS_set t1 0
  have hs2 : xs_I sm 0 10 (0 : Int32) = mT sm 0 (sm.1 11) := mT_set sm 0
  rw [g1, Option.bind_some, hs1, hs2, xo_nm_b, xo_nm_b]
  generalize hu1 : cS t1 0 (t1.1 28 3) (t1.1 30) = u1
  generalize hu2 : mT sm 0 (sm.1 11) = u2
  have u1s : u1 = cS u1 0 (u1.1 28 3) (u1.1 30) := cS_self (by rw [← hu1]; rfl)
  have u2s : u2 = mT u2 0 (u2.1 11) := mT_self (by rw [← hu2]; rfl)
  have hCu : lC u1 L l := by rw [← hu1]; exact hCt1
  have hMu : lM u2 L l := by rw [← hu2]; exact hMsm
  have u1o : ∀ k, k ≠ 28 → k ≠ 30 → u1.1 k = t1.1 k := fun k q1 q2 => by rw [← hu1, cS_o _ _ _ _ q1 q2]
  have u1l : u1.2 = t1.2 := by rw [← hu1]; rfl
  have u2o : ∀ k, k ≠ 0 → k ≠ 11 → u2.1 k = sm.1 k := fun k q1 q2 => by rw [← hu2, mT_o _ _ _ q1 q2]
  have u20 : ∀ j, j ≠ 10 → u2.1 0 j = sm.1 0 j := fun j q1 => by rw [← hu2, mT_0 _ _ _ q1]
  have hdCu : dC u1 n A B C Kd P X Y := by rw [← hu1]; exact hdC
  obtain ⟨m, hml, hF | hS⟩ := p_or L l
  · -- a letter with which no town can go on
    obtain ⟨r1, w1, kk, ff, rfl⟩ := e_allF hCu ⟨_, _, u1s⟩ hml hF
    obtain ⟨r2, w2, gg, rfl⟩ := e_mallF hMu ⟨_, u2s⟩ hml hF
    have hpl9 := pc_le (L := L) (pos_le L l m)
    generalize (pc L l (pos L l m)).1 = b at *
    have ev : (-1000 : Int32) - zI (b : Int) = zI (-1000 - (b : Int)) := by
      rw [show (-1000 : Int32) = zI (-1000) from rfl, zI_sub]
    rw [w1, w2, Option.bind_some, Option.bind_some]
    unfold xo_bn F_Let_clear
    rw [Sum.elim_inl, Option.bind_some, cS_2, ev]
    dsimp only
    rw [if_neg (by rw [zI_0, zI_le (by decide) ⟨by omega, by omega⟩]; omega), Option.bind_some]
    dsimp only
    rw [xo_nm_b, Option.bind_some, if_pos (by rw [zI_0, zI_le ⟨by omega, by omega⟩ (by decide)]; omega), Sum.elim_inr]
    unfold xo_u2 F_Mod_town_m53
    dsimp only
    rw [if_pos rfl, xo_nm_b]
    have em : (xs_I (mT u2 b gg) 0 8 (0 : Int32)).1 0 10 = zI (b : Int) := by simp [xs_I, upd, mT]
    rw [em, ev]
    refine ⟨_, _, _, rfl, rfl, ?_⟩
    have k1 : ∀ k, k ≠ 28 → k ≠ 30 → (xs_I (cS u1 b kk ff) 28 1 (0 : Int32)).1 k = t1.1 k := fun k q1 q2 => by
      have : (xs_I (cS u1 b kk ff) 28 1 (0 : Int32)).1 k = (cS u1 b kk ff).1 k := by simp [xs_I, q1]
      rw [this, cS_o _ _ _ _ q1 q2, u1o k q1 q2]
    have k2 : (xs_I (cS u1 b kk ff) 28 1 (0 : Int32)).1 28 1 = 0 := by simp [xs_I, upd]
    have k3 : (xs_I (cS u1 b kk ff) 28 1 (0 : Int32)).2 = sc.2 := u1l.trans a1
    have k4 : ∀ k, k ≠ 0 → k ≠ 11 → (xs_I (mT u2 b gg) 0 8 (0 : Int32)).1 k = sm.1 k := fun k q1 q2 => by
      have : (xs_I (mT u2 b gg) 0 8 (0 : Int32)).1 k = (mT u2 b gg).1 k := by simp [xs_I, q1]
      rw [this, mT_o _ _ _ q1 q2, u2o k q1 q2]
    have k5 : (xs_I (mT u2 b gg) 0 8 (0 : Int32)).1 0 8 = 0 := by simp [xs_I, upd]
    have k6 : ∀ j, j ≠ 8 → j ≠ 10 → (xs_I (mT u2 b gg) 0 8 (0 : Int32)).1 0 j = sm.1 0 j := fun j q1 q2 => by
      have : (xs_I (mT u2 b gg) 0 8 (0 : Int32)).1 0 j = (mT u2 b gg).1 0 j := by simp [xs_I, upd, q1]
      rw [this, mT_0 _ _ _ q2, u20 j q2]
    generalize xs_I (cS u1 b kk ff) 28 1 (0 : Int32) = v1 at *
    generalize xs_I (mT u2 b gg) 0 8 (0 : Int32) = v2 at *
    refine RR_fin hq ⟨n, A, B, C, Kd, P, X, Y, xR_of hR0 (fun k q1 q2 => by rw [k1 k (by omega) (by omega), a2 k (by omega)]) (fun k q1 q2 => by rw [k1 k (by omega) (by omega), a2 k (by omega)]) k3 (k6 0 (by omega) (by omega)) (k6 5 (by omega) (by omega)) (fun k q => k4 k (by omega) (by omega)) (fun s _ => by rw [k4 2 (by omega) (by omega), k4 3 (by omega) (by omega), k4 4 (by omega) (by omega)]; exact ⟨rfl, rfl, rfl⟩)⟩ (by rw [k1 0 (by omega) (by omega), a2 0 (by omega)]) k2 (fun k q => by rw [k1 k (by omega) (by omega), a2 k (by omega)]) k5 (fun j q => k6 j (by omega) (by omega)) (fun k q => k4 k (by omega) (by omega))
  · -- all letters are read
    obtain ⟨r1, w1, kk, ff, rfl⟩ := e_allS hCu ⟨_, _, u1s⟩ hml hS
    obtain ⟨r2, w2, gg, rfl⟩ := e_mallS hMu ⟨_, u2s⟩ hml hS
    have hm0 := hS.1
    obtain ⟨t12, q1, q2, q3, q4, q5, q6, q7⟩ := e_keep (mT u2 l gg)
    have hs3 : xs_I (cS u1 l kk ff) 28 2 (0 : Int32) = cS u1 0 kk ff := cS_at u1 l 0 kk ff
    have hs4 : xs_I t12 0 10 (0 : Int32) = mT t12 0 (t12.1 11) := mT_set t12 0
    have hM12 : lM t12 L l := by
      unfold lM
      rw [q3 0 (by omega), q3 9 (by omega)]
      exact hMu
    have b0 : ∀ k, k ≠ 0 → k ≠ 11 → k ≠ 17 → t12.1 k = sm.1 k := fun k z1 z2 z3 => by rw [q3 k z3, mT_o _ _ _ z1 z2, u2o k z1 z2]
    have b1 : ∀ j, j ≠ 10 → t12.1 0 j = sm.1 0 j := fun j z1 => by rw [q3 0 (by omega), mT_0 _ _ _ z1, u20 j z1]
    have hdM : dM t12 n A B C Kd P X Y := ⟨(b1 0 (by omega)).trans hn, (b1 5 (by omega)).trans hpm.1, fun s hs => by
      rw [b0 1 (by omega) (by omega) (by omega), b0 2 (by omega) (by omega) (by omega), b0 3 (by omega) (by omega) (by omega), b0 4 (by omega) (by omega) (by omega)]
      exact ⟨(hkd s hs).2.1, hm.2.1 s hs⟩, fun p hpp => by
      rw [b0 6 (by omega) (by omega) (by omega), b0 7 (by omega) (by omega) (by omega)]
      exact ⟨(hpm.2.2 p hpp).1, (hpm.2.2 p hpp).2.1⟩⟩
    have hz : zS u1 t12 (pos L l 0) (cS u1 0 kk ff) (mT t12 0 (t12.1 11)) := ⟨rfl, rfl, fC_cS ⟨rfl, fun _ _ _ _ => rfl, rfl⟩ _ _ _, fM_mT ⟨fun _ _ _ => rfl, fun _ _ _ _ => rfl⟩ _ _, n, A, B, C, Kd, P, X, Y, hD, dC_cS hdCu _ _ _, dM_mT hdM _ _⟩
    have hrun := e_run2 hCu hM12 hml hS m 0 _ _ 1000000 (by omega) (by omega) hz
    have e00 : ((0 : Int32), cS u1 0 kk ff) = (zI ((0 : Nat) : Int), cS u1 0 kk ff) := rfl
    have e01 : ((0 : Int32), mT t12 0 (t12.1 11)) = (zI ((0 : Nat) : Int), mT t12 0 (t12.1 11)) := rfl
    rw [w1, w2, Option.bind_some, Option.bind_some, Sum.elim_inr, Sum.elim_inl]
    unfold xo_bn F_Let_clear F_Mod_town_m53 xo_u2
    dsimp only
    rw [Option.bind_some]
    dsimp only
    rw [if_pos (by rw [zI_0, zI_le (by decide) (zB_n (by omega))]; omega), xo_nm_b, hs3, if_neg (show ¬ (1 : Int32) = 0 by decide), q1, Option.bind_some, xo_nm_b, hs4, e00, e01]
    -- the class's cells after the second reading
    have cfr : ∀ tc' : XS, fC u1 tc' → (∀ k, k < 8 ∨ 14 < k → k ≠ 28 → k ≠ 30 → (xs_I tc' 28 1 (0 : Int32)).1 k = sc.1 k) ∧ (xs_I tc' 28 1 (0 : Int32)).1 28 1 = 0 ∧ (xs_I tc' 28 1 (0 : Int32)).2 = sc.2 ∧ (∀ k, k ≠ 28 → (xs_I tc' 28 1 (0 : Int32)).1 k = tc'.1 k) := fun tc' hf => by
      refine ⟨fun k z1 z2 z3 => ?_, by simp [xs_I, upd], (hf.1.trans u1l).trans a1, fun k z2 => by simp [xs_I, z2]⟩
      have : (xs_I tc' 28 1 (0 : Int32)).1 k = tc'.1 k := by simp [xs_I, z2]
      rw [this, hf.2.1 k z1 z2 z3, u1o k z2 z3, a2 k z1]
    rcases hrun with ⟨v, tc', tm', x1, x2, x3, x4, x5⟩ | ⟨tc', tm', x1, x2, x3⟩
    · -- a statement that is not as it must be
      obtain ⟨t18, y1, y2, y3, y4, y5, y6, y7, y8⟩ := e_again tm'
      have ev : (-2000 : Int32) - zI (v : Int) = zI (-2000 - (v : Int)) := by
        rw [show (-2000 : Int32) = zI (-2000) from rfl, zI_sub]
      rw [x1, x2, Option.bind_some, Option.bind_some, Sum.elim_inl, Sum.elim_inl]
      dsimp only
      rw [Option.bind_some, y1, Option.bind_some, xo_nm_b, ev]
      dsimp only
      rw [xo_nm_b, Option.bind_some, if_pos (by rw [zI_0, zI_le ⟨by omega, by omega⟩ (by decide)]; omega)]
      refine ⟨_, _, _, rfl, rfl, ?_⟩
      obtain ⟨k1, k2, k3, k9⟩ := cfr tc' x4
      have m17 : ∀ j, tm'.1 17 j = t12.1 17 j := fun j => by rw [x5.1 17 (by omega) (by omega)]
      have k4 : ∀ k, k = 13 ∨ k = 14 ∨ k = 16 → (xs_I t18 0 8 (0 : Int32)).1 k = sm.1 k := fun k z => by
        have : (xs_I t18 0 8 (0 : Int32)).1 k = t18.1 k := by
          have : ¬ k = 0 := by omega
          simp [xs_I, this]
        rw [this, y3 k (by omega), x5.1 k (by omega) (by omega), b0 k (by omega) (by omega) (by omega)]
      have k5 : (xs_I t18 0 8 (0 : Int32)).1 0 8 = 0 := by simp [xs_I, upd]
      have k6 : ∀ j, j ≠ 8 → (xs_I t18 0 8 (0 : Int32)).1 0 j = t18.1 0 j := fun j z => by simp [xs_I, upd, z]
      have k7 : ∀ k, k ≠ 0 → (xs_I t18 0 8 (0 : Int32)).1 k = t18.1 k := fun k z => by simp [xs_I, z]
      generalize xs_I tc' 28 1 (0 : Int32) = v1 at *
      generalize xs_I t18 0 8 (0 : Int32) = v2 at *
      refine RR_fin hq ⟨n, A, B, C, Kd, P, X, Y, xR_back hR0 (fun k z1 z2 => k1 k (by omega) (by omega) (by omega)) (fun k z1 z2 => k1 k (by omega) (by omega) (by omega)) k3 ?_ ?_ (fun s hs => ?_) (fun p hpp => ?_)⟩ (k1 0 (by omega) (by omega) (by omega)) k2 (fun k z => k1 k (by omega) (by omega) (by omega)) k5 (fun j z => ?_) k4
      · rw [k6 0 (by omega), y7, m17, q6, mT_0 _ _ _ (by omega), u20 0 (by omega)]
      · rw [k6 5 (by omega), y8, m17, q7, mT_0 _ _ _ (by omega), u20 5 (by omega)]
      · obtain ⟨z1, z2, z3, z4⟩ := y5 s hs
        obtain ⟨z5, z6, z7, z8⟩ := q4 s hs
        rw [k7 1 (by omega), k7 2 (by omega), k7 3 (by omega), k7 4 (by omega), z1, z2, z3, z4, m17, m17, m17, m17, z5, z6, z7, z8, mT_o _ _ _ (by omega) (by omega), mT_o _ _ _ (by omega) (by omega), mT_o _ _ _ (by omega) (by omega), mT_o _ _ _ (by omega) (by omega), u2o 1 (by omega) (by omega), u2o 2 (by omega) (by omega), u2o 3 (by omega) (by omega), u2o 4 (by omega) (by omega)]
        exact ⟨rfl, rfl, rfl, rfl⟩
      · obtain ⟨z1, z2⟩ := y6 p hpp
        obtain ⟨z5, z6⟩ := q5 p hpp
        rw [k7 6 (by omega), k7 7 (by omega), z1, z2, m17, m17, z5, z6, mT_o _ _ _ (by omega) (by omega), mT_o _ _ _ (by omega) (by omega), u2o 6 (by omega) (by omega), u2o 7 (by omega) (by omega)]
        exact ⟨rfl, rfl⟩
      · rw [k6 j (by omega), y4 j (by omega) (by omega), x5.2 j (by omega) (by omega) (by omega), b1 j (by omega)]
    · -- all come
      obtain ⟨z1, z2, z3, z4, n', A', B', C', Kd', P', X', Y', hD', hdC', hdM'⟩ := x3
      obtain ⟨k1, k2, k3, k9⟩ := cfr tc' z3
      rw [x1, x2, Option.bind_some, Option.bind_some, Sum.elim_inr, Sum.elim_inr]
      dsimp only
      rw [Option.bind_some, xo_nm_b]
      try dsimp only
      rw [xo_nm_b, Option.bind_some, if_neg (by rw [zI_0, zI_le (zB_n (by omega)) (by decide)]; omega)]
      have k5 : (xs_I tm' 0 8 (0 : Int32)).1 0 8 = 0 := by simp [xs_I, upd]
      have k6 : ∀ j, j ≠ 8 → (xs_I tm' 0 8 (0 : Int32)).1 0 j = tm'.1 0 j := fun j z => by simp [xs_I, upd, z]
      have k7 : ∀ k, k ≠ 0 → (xs_I tm' 0 8 (0 : Int32)).1 k = tm'.1 k := fun k z => by simp [xs_I, z]
      generalize xs_I tc' 28 1 (0 : Int32) = v1 at *
      generalize xs_I tm' 0 8 (0 : Int32) = v2 at *
      obtain ⟨t5, y1, y2, y3, y4, y5, y6, y7⟩ := e_copy_v1 v1
      have hcL : cL t5 n' A' B' C' := by
        refine ⟨?_, hD'.1, fun s hs => ?_, hD'.2.2.1⟩
        · rw [y4, k9 8 (by omega)]; exact hdC'.1
        · obtain ⟨d1, d2, d3, d4⟩ := y6 s (by have := hD'.1; omega)
          obtain ⟨f1, f2, f3, f4⟩ := hdC'.2.2.1 s hs
          refine ⟨d2.trans ?_, d3.trans ?_, d4.trans ?_⟩
          · rw [k9 (8 + 2) (by omega)]; exact f2
          · rw [k9 (8 + 3) (by omega)]; exact f3
          · rw [k9 (8 + 4) (by omega)]; exact f4
      obtain ⟨t6, c1, c2, c3⟩ := e_measure hcL
      rw [y1, Option.bind_some, c1, Option.bind_some]
      refine ⟨_, _, _, rfl, rfl, ?_⟩
      have hn' := hD'.1
      have hP' := hD'.2.1
      have c4 : ∀ k, (15 ≤ k ∧ k ≤ 21) ∨ k = 31 ∨ k = 32 ∨ k = 0 → t6.1 k = sc.1 k := fun k z => by rw [c2 k (by omega), y3 k (by omega), k1 k (by omega) (by omega) (by omega)]
      refine RR_fin hq ⟨n', A', B', C', Kd', P', X', Y', ?_, hD'.2.2.2.1, c3, fun s hs => ?_, ⟨?_, hP', fun p hpp => ?_⟩, ?_, ⟨by omega, fun s hs => ?_, hD'.2.2.1⟩, ⟨?_, hP', fun p hpp => ?_⟩⟩ (c4 0 (by omega)) ?_ (fun k z => c4 k (by omega)) k5 (fun j z => ?_) (fun k z => ?_)
      · unfold cL at *
        rw [c2 1 (by omega), c2 3 (by omega), c2 4 (by omega), c2 5 (by omega)]; exact hcL
      · obtain ⟨d1, -, -, -⟩ := y6 s (by omega)
        rw [c2 2 (by omega), k7 1 (by omega)]
        refine ⟨Eq.trans d1 ?_, (hdM'.2.2.1 s hs).1, hD'.2.2.2.2.1 s hs⟩
        rw [k9 (8 + 1) (by omega)]; exact (hdC'.2.2.1 s hs).1
      · rw [c2 1 (by omega), y5, k9 8 (by omega)]; exact hdC'.2.1
      · obtain ⟨d1, d2⟩ := y7 p (by omega)
        rw [c2 6 (by omega), c2 7 (by omega)]
        refine ⟨Eq.trans d1 ?_, Eq.trans d2 ?_, (hD'.2.2.2.2.2 p hpp).1, (hD'.2.2.2.2.2 p hpp).2⟩
        · rw [k9 (8 + 5) (by omega)]; exact (hdC'.2.2.2 p hpp).1
        · rw [k9 (8 + 6) (by omega)]; exact (hdC'.2.2.2 p hpp).2
      · rw [k6 0 (by omega)]; exact hdM'.1
      · rw [k7 2 (by omega), k7 3 (by omega), k7 4 (by omega)]; exact (hdM'.2.2.1 s hs).2
      · rw [k6 5 (by omega)]; exact hdM'.2.1
      · rw [k7 6 (by omega), k7 7 (by omega)]
        exact ⟨(hdM'.2.2.2 p hpp).1, (hdM'.2.2.2 p hpp).2, (hD'.2.2.2.2.2 p hpp).1, (hD'.2.2.2.2.2 p hpp).2⟩
      · rw [c2 28 (by omega), y3 28 (by omega)]; exact k2
      · rw [k6 j (by omega), z4.2 j (by omega) (by omega) (by omega), b1 j (by omega)]
      · rw [k7 k (by omega), z4.1 k (by omega) (by omega), b0 k (by omega) (by omega) (by omega)]
