/-! a statement told, as the reference does it -/
def mpS (x1 k0 : Int32) (t18 : XS) : Option (Int32 × XS) := if x1 = (0 : Int32) then some ((1 : Int32), t18) else (xo_rd (t18.1 11) 3 (0 : Int32)).bind fun v19 => if v19 = (0 : Int32) then (xo_rd (t18.1 11) 3 (1 : Int32)).bind fun v20 => if v20 = (0 : Int32) then some ((0 : Int32), t18) else F_Mod_statement_m239 k0 t18 else F_Mod_statement_m239 k0 t18
def mpP (x1 : Int32) (t31 : XS) : Option (Int32 × XS) := if x1 = (0 : Int32) then some ((1 : Int32), t31) else (xo_rd (t31.1 11) 3 (0 : Int32)).bind fun v32 => (F_Mod_within v32 (-20 : Int32) (20 : Int32)).bind fun v33 => if v33 = (0 : Int32) then some ((0 : Int32), t31) else (xo_rd (t31.1 11) 3 (1 : Int32)).bind fun v34 => (F_Mod_within v34 (-20 : Int32) (20 : Int32)).bind fun v35 => if v35 = (0 : Int32) then some ((0 : Int32), t31) else if (t31.1 0 5) = (8 : Int32) then some ((0 : Int32), t31) else (xo_rd (t31.1 11) 3 (0 : Int32)).bind fun v36 => (xo_ck 8 (t31.1 0 5)).bind fun _ => xo_nm (xs_A t31 6 (upd (t31.1 6) ((t31.1 0 5)).toNatClampNeg v36)) fun t37 => xo_nm (xs_I t37 0 5 ((t37.1 0 5) + (1 : Int32))) fun t38 => (xo_rd (t38.1 11) 3 (1 : Int32)).bind fun v39 => (xo_ck 8 (t37.1 0 5)).bind fun _ => xo_nm (xs_A t38 7 (upd (t38.1 7) ((t37.1 0 5)).toNatClampNeg v39)) fun t40 => some ((1 : Int32), t40)
def mOK (st : XS) (x1 : Int32) (x : Option (Int32 × XS)) (y : Nat × Option (Int × Int × Int × Int)) : Prop := (y.2 = none ∧ ∃ f', x = some ((-1 : Int32), mT st y.1 f')) ∨ ∃ r f', y.2 = some r ∧ f' 0 = zI r.2.1 ∧ f' 1 = zI r.2.2.1 ∧ (0 ≤ r.1 → f' 2 = zI r.2.2.2) ∧ x = (if r.1 < 0 then mpP x1 (mT st y.1 f') else mpS x1 (zI r.1) (mT st y.1 f'))
theorem mOK_no {st : XS} {x1 : Int32} {b : Nat} {f : Nat → Int32} : mOK st x1 (some ((-1 : Int32), mT st b f)) (b, none) := Or.inl ⟨rfl, f, rfl⟩
theorem e_mk {st : XS} {L : Nat → Nat} {l a : Nat} (h : lM st L l) (ha : a ≤ l) (x1 : Int32) (f : Nat → Int32) : mOK st x1 (if zI ((l : Nat) : Int) ≤ zI (a : Int) then F_Mod_statement_m168 x1 (mT st a f) else (xo_rd (st.1 9) 96 (zI (a : Int))).bind fun v25 => if v25 ≤ (0 : Int32) then F_Mod_statement_m168 x1 (mT st a f) else (xo_rd (st.1 9) 96 (zI (a : Int))).bind fun v26 => (F_Str_indexOf1 v26).bind fun v27 => F_Mod_statement_m169 x1 v27 (mT st a f)) (if pk L l a = true then pb (pn L l false (a + 1)) fun b u => pb (pn L l false b) fun c v => pb (pn L l true c) fun d w => (d, some (kx (L a), u, v, w)) else (a, none)) := by
  have hno : mOK st x1 (F_Mod_statement_m168 x1 (mT st a f)) (a, none) := by
    unfold F_Mod_statement_m168 F_Mod_statement_m169
    rw [if_neg (show ¬ (0 : Int32) ≤ (-1 : Int32) by decide)]
    exact mOK_no
  have hh := h
  obtain ⟨h1, h2, h3⟩ := h
  by_cases hl : a < l
  · obtain ⟨g1, g2⟩ := h3 a hl
    have hb := kx_b (L a)
    rw [if_neg (zI_ge1 (by omega) hl), xo_rd_z (show a < 96 by omega) (by decide), Option.bind_some, Option.bind_some, g2, e_ix _ g1, Option.bind_some]
    have k1 : zI (L a : Int) ≤ (0 : Int32) ↔ (L a : Int) ≤ 0 := zi_le (zB_n (by omega)) (by decide) _ _ rfl rfl
    simp only [k1]
    have hk : pk L l a = decide (0 ≤ kx (L a)) := by unfold pk; rw [decide_eq_true hl, Bool.true_and]
    rw [hk]
    by_cases c0 : (L a : Int) ≤ 0
    · have e0 : L a = 0 := by omega
      rw [if_pos c0, if_neg (by rw [e0]; decide)]
      exact hno
    · rw [if_neg c0]
      by_cases c : 0 ≤ kx (L a)
      · rw [decide_eq_true c, if_pos rfl]
        unfold F_Mod_statement_m169
        rw [if_pos ((zi_le (by decide) ⟨by omega, by omega⟩ (0 : Int32) _ rfl rfl).mpr c), mT_10, xo_nm_b, zI_suc, mT_at]
        rcases hp : pn L l false (a + 1) with ⟨b, _ | u⟩
        · have r0 : F_Mod_number (0 : Int32) (0 : Int32) (mT st (a + 1) f) = some (0, mT st b f) := e_mn_n (w := 0) hh (by omega) (by decide) false f hp
          rw [r0]
          unfold xo_bn
          rw [Option.bind_some]
          dsimp only
          rw [if_pos rfl]
          exact mOK_no
        · have r0 : F_Mod_number (0 : Int32) (0 : Int32) (mT st (a + 1) f) = some (1, mT st b (upd f 0 (zI u))) := e_mn_s (w := 0) hh (by omega) (by decide) false f hp
          have hb : b ≤ l := by have := (pn_le (L := L) (two := false) (show a + 1 ≤ l by omega)).2; rw [hp] at this; exact this
          rw [r0]
          unfold xo_bn
          rw [Option.bind_some]
          dsimp only
          rw [if_neg (show ¬ (1 : Int32) = 0 by decide)]
          show mOK st x1 _ (pb (pn L l false b) _)
          rcases hp2 : pn L l false b with ⟨c, _ | v⟩
          · have r1 : F_Mod_number (1 : Int32) (0 : Int32) (mT st b (upd f 0 (zI u))) = some (0, mT st c (upd f 0 (zI u))) := e_mn_n (w := 1) hh hb (by decide) false _ hp2
            rw [r1, Option.bind_some]
            dsimp only
            rw [if_pos rfl]
            exact mOK_no
          · have r1 : F_Mod_number (1 : Int32) (0 : Int32) (mT st b (upd f 0 (zI u))) = some (1, mT st c (upd (upd f 0 (zI u)) 1 (zI v))) := e_mn_s (w := 1) hh hb (by decide) false _ hp2
            have hc : c ≤ l := by have := (pn_le (L := L) (two := false) hb).2; rw [hp2] at this; exact this
            rw [r1, Option.bind_some]
            dsimp only
            rw [if_neg (show ¬ (1 : Int32) = 0 by decide)]
            show mOK st x1 _ (pb (pn L l true c) _)
            rcases hp3 : pn L l true c with ⟨d, _ | w⟩
            · have r2 : F_Mod_number (2 : Int32) (1 : Int32) (mT st c (upd (upd f 0 (zI u)) 1 (zI v))) = some (0, mT st d (upd (upd f 0 (zI u)) 1 (zI v))) := e_mn_n (w := 2) hh hc (by decide) true _ hp3
              rw [r2, Option.bind_some]
              dsimp only
              rw [if_pos rfl]
              exact mOK_no
            · have r2 : F_Mod_number (2 : Int32) (1 : Int32) (mT st c (upd (upd f 0 (zI u)) 1 (zI v))) = some (1, mT st d (upd (upd (upd f 0 (zI u)) 1 (zI v)) 2 (zI w))) := e_mn_s (w := 2) hh hc (by decide) true _ hp3
              rw [r2, Option.bind_some]
              dsimp only
              rw [if_neg (show ¬ (1 : Int32) = 0 by decide)]
              refine Or.inr ⟨(kx (L a), u, v, w), upd (upd (upd f 0 (zI u)) 1 (zI v)) 2 (zI w), rfl, by rw [upd_n (by decide), upd_n (by decide), upd_e], by rw [upd_n (by decide), upd_e], fun _ => by rw [upd_e], ?_⟩
              rw [if_neg (show ¬ kx (L a) < 0 by omega)]
              rfl
      · rw [decide_eq_false c, if_neg (by decide)]
        unfold F_Mod_statement_m169
        rw [if_neg (fun z => c ((zi_le (by decide) ⟨by omega, by omega⟩ (0 : Int32) _ rfl rfl).mp z))]
        exact mOK_no
  · have hp : ¬ pk L l a = true := by unfold pk; simp [hl]
    have e : a = l := by omega
    rw [if_pos (by rw [e]; exact zI_rfl _), if_neg hp]
    exact hno
theorem e_mstmt {st : XS} {L : Nat → Nat} {l a : Nat} (h : lM st L l) (ha : a ≤ l) (x1 : Int32) (f : Nat → Int32) : mOK st x1 (F_Mod_statement x1 (mT st a f)) (ps L l a) := by
  unfold F_Mod_statement ps
  have t1 : F_Mod_is (112 : Int32) (mT st a f) = some (zI (if pt L l 112 a = true then 1 else 0), mT st (if pt L l 112 a = true then a + 1 else a) f) := e_mis (c := 112) h ha (by decide) f
  have t2 : F_Mod_is (115 : Int32) (mT st a f) = some (zI (if pt L l 115 a = true then 1 else 0), mT st (if pt L l 115 a = true then a + 1 else a) f) := e_mis (c := 115) h ha (by decide) f
  rw [t1]
  unfold xo_bn
  rw [Option.bind_some]
  dsimp only
  by_cases c1 : pt L l 112 a = true
  · have hl := (pt_lt c1).1
    have hc2 : ¬ pt L l 115 a = true := fun z => by
      have h1 := (pt_lt c1).2
      have h2 := (pt_lt z).2
      omega
    rw [if_pos c1, if_pos c1, if_neg (show ¬ zI 1 = (0 : Int32) by decide), if_neg hc2, if_pos c1]
    rcases hp : pn L l true (a + 1) with ⟨b, _ | u⟩
    · have r0 : F_Mod_number (0 : Int32) (1 : Int32) (mT st (a + 1) f) = some (0, mT st b f) := e_mn_n (w := 0) h (by omega) (by decide) true f hp
      rw [r0, Option.bind_some]
      dsimp only
      rw [if_pos rfl]
      exact mOK_no
    · have r0 : F_Mod_number (0 : Int32) (1 : Int32) (mT st (a + 1) f) = some (1, mT st b (upd f 0 (zI u))) := e_mn_s (w := 0) h (by omega) (by decide) true f hp
      have hb : b ≤ l := by have := (pn_le (L := L) (two := true) (show a + 1 ≤ l by omega)).2; rw [hp] at this; exact this
      rw [r0, Option.bind_some]
      dsimp only
      rw [if_neg (show ¬ (1 : Int32) = 0 by decide)]
      show mOK st x1 _ (pb (pn L l true b) _)
      rcases hp2 : pn L l true b with ⟨c, _ | v⟩
      · have r1 : F_Mod_number (1 : Int32) (1 : Int32) (mT st b (upd f 0 (zI u))) = some (0, mT st c (upd f 0 (zI u))) := e_mn_n (w := 1) h hb (by decide) true _ hp2
        rw [r1, Option.bind_some]
        dsimp only
        rw [if_pos rfl]
        exact mOK_no
      · have r1 : F_Mod_number (1 : Int32) (1 : Int32) (mT st b (upd f 0 (zI u))) = some (1, mT st c (upd (upd f 0 (zI u)) 1 (zI v))) := e_mn_s (w := 1) h hb (by decide) true _ hp2
        rw [r1, Option.bind_some]
        dsimp only
        rw [if_neg (show ¬ (1 : Int32) = 0 by decide)]
        refine Or.inr ⟨(-1, u, v, 0), upd (upd f 0 (zI u)) 1 (zI v), rfl, by rw [upd_n (by decide), upd_e], by rw [upd_e], fun z => absurd (show (0 : Int) ≤ -1 from z) (by decide), ?_⟩
        rw [if_pos (show (-1 : Int) < 0 by decide)]
        rfl
  · rw [if_neg c1, if_neg c1, if_pos (show zI 0 = (0 : Int32) from rfl), t2, Option.bind_some]
    dsimp only
    by_cases c2 : pt L l 115 a = true
    · have hl := (pt_lt c2).1
      rw [if_pos c2, if_pos c2, if_neg (show ¬ zI 1 = (0 : Int32) by decide), if_pos c2, mT_8, mT_10, mT_9, h.2.1]
      exact e_mk h (by omega) x1 f
    · rw [if_neg c2, if_neg c2, if_pos (show zI 0 = (0 : Int32) from rfl), if_neg c2, if_neg c1]
      exact mOK_no
