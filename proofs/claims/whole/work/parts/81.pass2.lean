/-! the second reading: both tell the same -/
theorem e_cputP {st : XS} {n P : Nat} {A B C X Y : Nat → Int} {Kd : Nat → Nat} {u v : Int} (h : dC st n A B C Kd P X Y) (hD : dD n A B C Kd P X Y) (hu : ab 99 u) (hv : ab 99 v) (hk : st.1 28 3 = (-1 : Int32)) (h0 : st.1 30 0 = zI u) (h1 : st.1 30 1 = zI v) : (gdP u v P → ∃ t, F_Let_putStatement st = some ((1 : Int32), t) ∧ cV st t ∧ dC t n A B C Kd (P + 1) (ex X P u) (ex Y P v)) ∧ (¬ gdP u v P → F_Let_putStatement st = some ((0 : Int32), st)) := by
  obtain ⟨g1, g2⟩ := e_cpP h hD hu hv
  have r0 : ∀ f : Nat → Int32, xo_rd f 3 (0 : Int32) = some (f 0) := fun f => xo_rd_z (k := 0) (by decide) (by decide)
  have r1 : ∀ f : Nat → Int32, xo_rd f 3 (1 : Int32) = some (f 1) := fun f => xo_rd_z (k := 1) (by decide) (by decide)
  unfold F_Let_putStatement
  rw [if_pos hk, r0, Option.bind_some, r1, Option.bind_some, h0, h1]
  refine ⟨fun z => ?_, fun z => ?_⟩
  · obtain ⟨t, e1, e2, e3⟩ := g1 z
    rw [e1]
    exact ⟨t, rfl, e2, e3⟩
  · rw [g2 z]; rfl
theorem e_cputS {st : XS} {n P : Nat} {A B C X Y : Nat → Int} {Kd : Nat → Nat} {u v w : Int} {k : Nat} (h : dC st n A B C Kd P X Y) (hD : dD n A B C Kd P X Y) (hu : ab 9 u) (hv : ab 9 v) (hk6 : k < 6) (hk : st.1 28 3 = zI (k : Int)) (h0 : st.1 30 0 = zI u) (h1 : st.1 30 1 = zI v) (h2 : st.1 30 2 = zI w) : (gdS u v n A B → ∃ t, F_Let_putStatement st = some ((1 : Int32), t) ∧ cV st t ∧ dC t (n + 1) (ex A n u) (ex B n v) (ex C n w) (exK Kd n k) P X Y) ∧ (¬ gdS u v n A B → F_Let_putStatement st = some ((0 : Int32), st)) := by
  obtain ⟨g1, g2⟩ := e_cpS (w := w) (k := k) h hD hu hv
  have r0 : ∀ f : Nat → Int32, xo_rd f 3 (0 : Int32) = some (f 0) := fun f => xo_rd_z (k := 0) (by decide) (by decide)
  have r1 : ∀ f : Nat → Int32, xo_rd f 3 (1 : Int32) = some (f 1) := fun f => xo_rd_z (k := 1) (by decide) (by decide)
  have r2 : ∀ f : Nat → Int32, xo_rd f 3 (2 : Int32) = some (f 2) := fun f => xo_rd_z (k := 2) (by decide) (by decide)
  unfold F_Let_putStatement
  rw [if_neg (by rw [hk, show (-1 : Int32) = zI (-1) from rfl, zI_eq (zB_n (by omega)) (by decide)]; omega), r0, Option.bind_some, r1, Option.bind_some, r2, Option.bind_some, h0, h1, h2, hk]
  refine ⟨fun z => ?_, fun z => ?_⟩
  · obtain ⟨t, e1, e2, e3⟩ := g1 z
    rw [e1]
    exact ⟨t, rfl, e2, e3⟩
  · rw [g2 z]; rfl
def fC (sc tc : XS) : Prop := tc.2 = sc.2 ∧ (∀ k, k < 8 ∨ 14 < k → k ≠ 28 → k ≠ 30 → tc.1 k = sc.1 k) ∧ tc.1 28 1 = sc.1 28 1
def fM (sm tm : XS) : Prop := (∀ k, k = 5 ∨ 8 ≤ k → k ≠ 11 → tm.1 k = sm.1 k) ∧ ∀ j, j ≠ 0 → j ≠ 5 → j ≠ 10 → tm.1 0 j = sm.1 0 j
theorem lC_f {sc tc : XS} {L : Nat → Nat} {l : Nat} (h : lC sc L l) (f : fC sc tc) : lC tc L l := by
  unfold lC at *
  rw [f.2.2, f.2.1 29 (by omega) (by omega) (by omega)]; exact h
theorem lM_f {sm tm : XS} {L : Nat → Nat} {l : Nat} (h : lM sm L l) (f : fM sm tm) : lM tm L l := by
  unfold lM at *
  rw [f.2 8 (by omega) (by omega) (by omega), f.1 9 (by omega) (by omega)]; exact h
theorem fC_cS {sc tc : XS} (f : fC sc tc) (a : Nat) (k : Int32) (g : Nat → Int32) : fC sc (cS tc a k g) := ⟨f.1, fun c h1 h2 h3 => by rw [cS_o _ _ _ _ h2 h3]; exact f.2.1 c h1 h2 h3, f.2.2⟩
theorem fC_V {sc tc t : XS} (f : fC sc tc) (g : cV tc t) : fC sc t := ⟨g.1.trans f.1, fun c h1 h2 h3 => (g.2 c h1).trans (f.2.1 c h1 h2 h3), by rw [g.2 28 (by omega)]; exact f.2.2⟩
theorem fM_mT {sm tm : XS} (f : fM sm tm) (a : Nat) (g : Nat → Int32) : fM sm (mT tm a g) := ⟨fun c h1 h2 => by rw [mT_o _ _ _ (by omega) h2]; exact f.1 c h1 h2, fun j h1 h2 h3 => by rw [mT_0 _ _ _ h3]; exact f.2 j h1 h2 h3⟩
theorem fM_V {sm tm t : XS} (f : fM sm tm) (g : mV tm t) : fM sm t := ⟨fun c h1 h2 => (g.2.1 c h1).trans (f.1 c h1 h2), fun j h1 h2 h3 => (g.2.2 j h1 h2).trans (f.2 j h1 h2 h3)⟩
theorem dC_cS {tc : XS} {n P : Nat} {A B C X Y : Nat → Int} {Kd : Nat → Nat} (h : dC tc n A B C Kd P X Y) (a : Nat) (k : Int32) (g : Nat → Int32) : dC (cS tc a k g) n A B C Kd P X Y := h
theorem dM_mT {tm : XS} {n P : Nat} {A B C X Y : Nat → Int} {Kd : Nat → Nat} (h : dM tm n A B C Kd P X Y) (a : Nat) (g : Nat → Int32) : dM (mT tm a g) n A B C Kd P X Y := h
def zS (sc sm : XS) (a : Nat) (tc tm : XS) : Prop := tc.1 28 2 = zI (a : Int) ∧ tm.1 0 10 = zI (a : Int) ∧ fC sc tc ∧ fM sm tm ∧ ∃ n A B C Kd P X Y, dD n A B C Kd P X Y ∧ dC tc n A B C Kd P X Y ∧ dM tm n A B C Kd P X Y
theorem e_step2 {sc sm tc tm : XS} {L : Nat → Nat} {l m k : Nat} (hC : lC sc L l) (hM : lM sm L l) (hm : m ≤ l) (hk : k < m) (hs : (pc L l (pos L l k)).2 ≠ none) (hz : zS sc sm (pos L l k) tc tm) : (∃ tc' tm', F_Let_readInto_b18 (zI (m : Int)) (zI (k : Int)) tc = some (.inr (.inl (zI (pos L l k : Int), tc'))) ∧ F_Mod_town_b86 (zI (k : Int)) tm = some (.inr (.inl (zI (pos L l k : Int), tm'))) ∧ fC sc tc' ∧ fM sm tm') ∨ (∃ tc' tm', F_Let_readInto_b18 (zI (m : Int)) (zI (k : Int)) tc = some (.inl (zI ((k + 1 : Nat) : Int), tc')) ∧ F_Mod_town_b86 (zI (k : Int)) tm = some (.inl (zI ((k + 1 : Nat) : Int), tm')) ∧ zS sc sm (pos L l (k + 1)) tc' tm') := by
  obtain ⟨z1, z2, z3, z4, n, A, B, C, Kd, P, X, Y, hD, hdC, hdM⟩ := hz
  have hle := pos_le L l k
  have hle2 := pos_le L l (k + 1)
  have hl := hC.1
  have hlt := pc_lt hs
  rw [← pos_suc] at hlt
  have hCt := lC_f hC z3
  have hMt := lM_f hM z4
  -- the class reads
  have hrd := e_readStmt hCt hle (tc.1 28 3) (tc.1 30)
  rw [← cS_self z1] at hrd
  obtain ⟨k', f', e1, e2⟩ := hrd
  -- the reference reads
  have hst := e_mstmt hMt hle (1 : Int32) (tm.1 11)
  rw [← mT_self z2] at hst
  rcases hp : pc L l (pos L l k) with ⟨c, _ | r⟩
  · rw [hp] at hs; exact absurd rfl hs
  obtain ⟨b, p1, p2, p3⟩ := pc_some hp
  have hpos : pos L l (k + 1) = b + 1 := by rw [pos_suc, hp]; exact p3
  have hbl : b ≤ l := by have := (pt_lt p2).1; omega
  rw [hp] at e1 e2
  obtain ⟨k1, k2, k3, k4⟩ := e2 r rfl
  have hrOK := (ps_rOK p1).1
  rw [p1] at hst
  rcases hst with ⟨h1, -⟩ | ⟨r2, g', h1, m1, m2, m3, m4⟩
  · cases h1
  have h1 := Option.some.inj h1
  subst h1
  subst p3
  dsimp only at e1 m4
  rw [if_pos (show (Option.isSome (some r)) = true from rfl)] at e1
  have hCr : lC (cS tc (b + 1) k' f') L l := lC_f hC (fC_cS z3 _ _ _)
  have hfC := fC_cS z3 (b + 1) k' f'
  have hfM := fM_mT z4 b g'
  -- joint end of the step
  have go : ∀ (tc' tm' : XS), F_Let_putStatement (cS tc (b + 1) k' f') = some ((1 : Int32), tc') → cV (cS tc (b + 1) k' f') tc' → F_Mod_statement (1 : Int32) tm = some ((1 : Int32), tm') → mV (mT tm b g') tm' → (∃ n A B C Kd P X Y, dD n A B C Kd P X Y ∧ dC tc' n A B C Kd P X Y ∧ dM tm' n A B C Kd P X Y) → (∃ tc' tm', F_Let_readInto_b18 (zI (m : Int)) (zI (k : Int)) tc = some (.inl (zI ((k + 1 : Nat) : Int), tc')) ∧ F_Mod_town_b86 (zI (k : Int)) tm = some (.inl (zI ((k + 1 : Nat) : Int), tm')) ∧ zS sc sm (pos L l (k + 1)) tc' tm') := by
    intro tc' tm' q1 q2 q3 q4 q5
    have hM2 : lM tm' L l := lM_f hM (fM_V hfM q4)
    have h10 : tm'.1 0 10 = zI (b : Int) := (q4.2.2 10 (by omega) (by omega)).trans (mT_10 _ _ _)
    have t1 : F_Mod_is (59 : Int32) tm' = some (zI 1, mT tm' (b + 1) (tm'.1 11)) := by
      have := e_mis (c := 59) hM2 hbl (by decide) (tm'.1 11)
      rw [← mT_self h10, if_pos p2, if_pos p2] at this
      exact this
    obtain ⟨n', A', B', C', Kd', P', X', Y', w1, w2, w3⟩ := q5
    refine ⟨tc', mT tm' (b + 1) (tm'.1 11), ?_, ?_, ?_, ?_, fC_V hfC q2, fM_mT (fM_V hfM q4) _ _, n', A', B', C', Kd', P', X', Y', w1, w2, dM_mT w3 _ _⟩
    · unfold F_Let_readInto_b18
      rw [if_neg (zI_ge1 (by omega) hk), xo_nm_b, e1]
      unfold xo_bn
      rw [Option.bind_some]
      dsimp only
      rw [if_neg (show ¬ zI 1 = (0 : Int32) by decide), q1, Option.bind_some]
      dsimp only
      rw [if_neg (show ¬ (1 : Int32) = 0 by decide), xo_nm_b, zI_suc]
    · unfold F_Mod_town_b86
      rw [hMt.2.1, z2, if_neg (by rw [zI_le (zB_n (by omega)) (zB_n (by omega))]; omega), xo_nm_b, q3]
      unfold xo_bn
      rw [Option.bind_some]
      dsimp only
      rw [if_neg (show ¬ (1 : Int32) = 0 by decide), t1, Option.bind_some]
      dsimp only
      rw [xo_nm_b, zI_suc]
    · rw [q2.2 28 (by omega), cS_2, hpos]
    · rw [mT_10, hpos]
  have bad : F_Let_putStatement (cS tc (b + 1) k' f') = some ((0 : Int32), cS tc (b + 1) k' f') → F_Mod_statement (1 : Int32) tm = some ((0 : Int32), mT tm b g') → (∃ tc' tm', F_Let_readInto_b18 (zI (m : Int)) (zI (k : Int)) tc = some (.inr (.inl (zI (pos L l k : Int), tc'))) ∧ F_Mod_town_b86 (zI (k : Int)) tm = some (.inr (.inl (zI (pos L l k : Int), tm'))) ∧ fC sc tc' ∧ fM sm tm') := by
    intro q1 q3
    refine ⟨_, _, ?_, ?_, hfC, hfM⟩
    · unfold F_Let_readInto_b18
      rw [if_neg (zI_ge1 (by omega) hk), xo_nm_b, e1]
      unfold xo_bn
      rw [Option.bind_some]
      dsimp only
      rw [if_neg (show ¬ zI 1 = (0 : Int32) by decide), q1, Option.bind_some]
      dsimp only
      rw [if_pos rfl, z1]
    · unfold F_Mod_town_b86
      rw [hMt.2.1, z2, if_neg (by rw [zI_le (zB_n (by omega)) (zB_n (by omega))]; omega), xo_nm_b, q3]
      unfold xo_bn
      rw [Option.bind_some]
      dsimp only
      rw [if_pos rfl]
  by_cases hneg : r.1 < 0
  · unfold rOK at hrOK
    rw [if_pos hneg] at hrOK
    rw [if_pos hneg] at m4
    obtain ⟨o1, o2, o3⟩ := hrOK
    obtain ⟨c1, c2⟩ := e_cputP (u := r.2.1) (v := r.2.2.1) (dC_cS hdC (b + 1) k' f') hD o2 o3 (by rw [cS_3, k1, o1]; rfl) (by rw [cS_30]; exact k2) (by rw [cS_30]; exact k3)
    obtain ⟨d1, d2⟩ := e_mpP (u := r.2.1) (v := r.2.2.1) (dM_mT hdM b g') hD o2 o3 (by rw [mT_11]; exact m1) (by rw [mT_11]; exact m2)
    by_cases hg : gdP r.2.1 r.2.2.1 P
    · obtain ⟨tc', q1, q2, q3⟩ := c1 hg
      obtain ⟨tm', q4, q5, q6⟩ := d1 hg
      exact Or.inr (go tc' tm' q1 q2 (m4.trans q4) q5 ⟨_, _, _, _, _, _, _, _, dD_P hD hg, q3, q6⟩)
    · exact Or.inl (bad (c2 hg) (m4.trans (d2 hg)))
  · unfold rOK at hrOK
    rw [if_neg hneg] at hrOK
    rw [if_neg hneg] at m4
    obtain ⟨o1, o2, o3, o4⟩ := hrOK
    obtain ⟨kk, hkk⟩ : ∃ kk : Nat, r.1 = (kk : Int) := ⟨r.1.toNat, by omega⟩
    have hkk6 : kk < 6 := by omega
    obtain ⟨c1, c2⟩ := e_cputS (u := r.2.1) (v := r.2.2.1) (w := r.2.2.2) (k := kk) (dC_cS hdC (b + 1) k' f') hD o2 o3 hkk6 (by rw [cS_3, k1, hkk]) (by rw [cS_30]; exact k2) (by rw [cS_30]; exact k3) (by rw [cS_30]; exact k4 (by omega))
    obtain ⟨d1, d2⟩ := e_mpS (u := r.2.1) (v := r.2.2.1) (w := r.2.2.2) (k := kk) (dM_mT hdM b g') hD o2 o3 (by rw [mT_11]; exact m1) (by rw [mT_11]; exact m2) (by rw [mT_11]; exact m3 (by omega))
    rw [hkk] at m4
    by_cases hg : gdS r.2.1 r.2.2.1 n A B
    · obtain ⟨tc', q1, q2, q3⟩ := c1 hg
      obtain ⟨tm', q4, q5, q6⟩ := d1 hg
      exact Or.inr (go tc' tm' q1 q2 (m4.trans q4) q5 ⟨_, _, _, _, _, _, _, _, dD_S hD hg o2 o3 o4 hkk6, q3, q6⟩)
    · exact Or.inl (bad (c2 hg) (m4.trans (d2 hg)))
