/-! fear, the reference's way -/
theorem e_mfear1 {sm : XS} {n m : Nat} {A B C : Nat → Int} {a b : Int} (h6 : n ≤ 6) (hok : gz_ok A B n) (hpq : a ≠ 0 ∨ b ≠ 0) (hne : ∀ t, t < n → gz_t A B a b t ≠ 0) (ha : ab 9 a) (hb : ab 9 b) (hm : mL sm n A B C) (hn : sm.1 0 0 = zI (n : Int)) (w : Bool) {x3 : Int32} (hx3 : w = false → m < 2 ^ n ∧ x3 = zI (m : Int)) (L K : Nat) : ∃ r, xo_lp (fun q : (Int32 × Int32 × Int32 × XS) => F_Mod_fear_b106 (zI (if w then 1 else 0)) x3 (zI a) (zI b) q.1 q.2.1 q.2.2.1 q.2.2.2) 1000000 (zI (L : Int), zI (K : Int), (-9 : Int32), sm) = some r ∧ r.1 = zI ((L + 19 : Nat) : Int) ∧ r.2.1 = zI ((K + (if w then 0 else fb_ct (fd A B C n m a b) 19) : Nat) : Int) ∧ mS n sm r.2.2 := by
  refine lp_inv (fun (i : Nat) (x : Int32 × Int32 × Int32 × XS) => x.1 = zI ((L + i : Nat) : Int) ∧ x.2.1 = zI ((K + (if w then 0 else fb_ct (fd A B C n m a b) i) : Nat) : Int) ∧ x.2.2.1 = ix 9 i ∧ mS n sm x.2.2.2) _ 19 1000000 _ (by omega) ⟨rfl, by cases w <;> rfl, rfl, mS_rfl n sm⟩ ?_ ?_
  · rintro i ⟨x, y, z, t⟩ hi ⟨e1, e2, e3, e4⟩
    dsimp only at e1 e2 e3 e4 ⊢
    subst e1; subst e2; subst e3
    unfold F_Mod_fear_b106
    rw [if_neg (fun z => by have := (ix9_ge (by omega)).mp z; omega), xo_nm_b, zI_suc]
    simp only [xo_nm_b, ix_suc]
    cases w with
    | true =>
      rw [if_pos (show zI (if true = true then 1 else 0) = (1 : Int32) from rfl)]
      exact ⟨_, rfl, rfl, rfl, rfl, e4⟩
    | false =>
      obtain ⟨hm2, rfl⟩ := hx3 rfl
      rw [if_neg (show ¬ zI (if false = true then 1 else 0) = (1 : Int32) by decide)]
      have hnt : t.1 0 0 = zI (n : Int) := (e4.2.1 0 (by omega)).trans hn
      obtain ⟨t1, t2, g1, g2, g3, g4⟩ := e_thlay h6 (mL_S hm e4) hnt ha hb (ix9_ab hi)
      have g1' : F_Mod_think (zI a) (zI b) (ix 9 i) t = some t1 := g1
      have hS := mS_trans e4 g3
      have e5 : fd A B C n m a b i = gc_K A B C a b ((i : Int) - 9) n n m := rfl
      rw [g1', Option.bind_some, g2, Option.bind_some, e_cuts h6 hok hpq hne ((hS.2.1 0 (by omega)).trans hn) g4 hm2, Option.bind_some, fb_ct_succ, e5]
      by_cases hk : gc_K A B C a b ((i : Int) - 9) n n m = true
      · rw [if_pos hk, if_neg (show ¬ zI 1 = (0 : Int32) by decide), if_pos hk]
        exact ⟨_, rfl, rfl, zI_suc _, rfl, hS⟩
      · rw [if_neg hk, if_pos (show zI 0 = (0 : Int32) from rfl), if_neg hk]
        exact ⟨_, rfl, rfl, rfl, rfl, hS⟩
  · rintro ⟨x, y, z, t⟩ ⟨e1, e2, e3, e4⟩
    dsimp only at e1 e2 e3 e4 ⊢
    subst e1; subst e2; subst e3
    unfold F_Mod_fear_b106
    rw [if_pos ((ix9_ge (by omega)).mpr (by omega))]
    exact ⟨_, rfl, rfl, rfl, e4⟩
theorem e_mfearC {sm : XS} {n m : Nat} {A B C : Nat → Int} (h6 : n ≤ 6) (hok : gz_ok A B n) (hm : mL sm n A B C) (hn : sm.1 0 0 = zI (n : Int)) (w : Bool) {x3 : Int32} (hx3 : w = false → m < 2 ^ n ∧ x3 = zI (m : Int)) {i j : Nat} (hi : i < 3) (hj : j < 5) (L K : Nat) : ∃ t, F_Mod_fear_b68 (zI (if w then 1 else 0)) x3 (zI (i : Int)) (zI (L : Int)) (zI (K : Int)) (ix 2 j) sm = some (.inl (zI ((L + fl A B n (i : Int) j : Nat) : Int), zI ((K + fk A B C n w m (i : Int) j : Nat) : Int), ix 2 (j + 1), t)) ∧ mS n sm t := by
  unfold F_Mod_fear_b68
  rw [if_neg (fun z => by have := (ix2_ge (by omega)).mp z; omega)]
  simp only [xo_nm_b, ix_suc]
  have k1 : zI (i : Int) = (0 : Int32) ↔ (i : Int) = 0 := zi_eq (zB_n (by omega)) (by decide) _ _ rfl rfl
  have k2 : ix 2 j = (0 : Int32) ↔ (j : Int) - 2 = 0 := zi_eq (ix_B (by omega) (by omega) (by omega)) (by decide) _ _ rfl rfl
  simp only [k1, k2]
  have hskip : fv A B n (i : Int) ((j : Int) - 2) = false → fl A B n (i : Int) j = 0 ∧ fk A B C n w m (i : Int) j = 0 := fun h => by
    unfold fl fk
    rw [h]
    exact ⟨rfl, rfl⟩
  have main : ¬ ((i : Int) = 0 ∧ (j : Int) - 2 = 0) → ∃ t, F_Mod_fear_m84 (zI (if w then 1 else 0)) x3 (zI (L : Int)) (zI (K : Int)) (zI (i : Int)) (ix 2 j) sm = some (.inl (zI ((L + fl A B n (i : Int) j : Nat) : Int), zI ((K + fk A B C n w m (i : Int) j : Nat) : Int), ix 2 (j + 1), t)) ∧ mS n sm t := by
    intro hpq
    unfold F_Mod_fear_m84
    simp only [xo_nm_b, ix_suc]
    have hd : F_Mod_isDirection (zI (i : Int)) (ix 2 j) (zI (n : Int)) sm = some (zI (if an (fun s => decide (gz_t A B (i : Int) ((j : Int) - 2) s = 0)) n = true then 1 else 0)) := e_misDir hm (ab9_i hi) (ab9_j hj)
    rw [hn, hd, Option.bind_some]
    by_cases hdr : an (fun s => decide (gz_t A B (i : Int) ((j : Int) - 2) s = 0)) n = true
    · rw [if_pos hdr, if_neg (by decide)]
      obtain ⟨s1, s2⟩ := hskip (by unfold fv; rw [hdr, Bool.not_true, Bool.and_false])
      rw [s1, s2]
      exact ⟨sm, rfl, mS_rfl n sm⟩
    · have hdr' : an (fun s => decide (gz_t A B (i : Int) ((j : Int) - 2) s = 0)) n = false := by simpa using hdr
      have hv : fv A B n (i : Int) ((j : Int) - 2) = true := by
        unfold fv
        rw [hdr', decide_eq_false hpq]; rfl
      have el : fl A B n (i : Int) j = 19 := if_pos hv
      have ek : fk A B C n w m (i : Int) j = if w then 0 else fb_ct (fd A B C n m (i : Int) ((j : Int) - 2)) 19 := if_pos hv
      rw [if_neg hdr, if_pos (show zI 0 = (0 : Int32) from rfl), el, ek]
      obtain ⟨⟨r1, r2, r3⟩, g1, g2, g3, g4⟩ := e_mfear1 (a := (i : Int)) (b := (j : Int) - 2) (A := A) (B := B) (C := C) h6 hok (by omega) (an_dir hdr) (ab9_i hi) (ab9_j hj) hm hn w hx3 L K
      have g1' : xo_lp (fun q : (Int32 × Int32 × Int32 × XS) => F_Mod_fear_b106 (zI (if w then 1 else 0)) x3 (zI (i : Int)) (ix 2 j) q.1 q.2.1 q.2.2.1 q.2.2.2) 1000000 (zI (L : Int), zI (K : Int), (-9 : Int32), sm) = some (r1, r2, r3) := g1
      dsimp only at g2 g3 g4
      rw [g1', Option.bind_some]
      unfold xo_u3
      dsimp only
      rw [g2, g3]
      exact ⟨r3, rfl, g4⟩
  by_cases c1 : (i : Int) = 0
  · rw [if_pos c1]
    by_cases c2 : (j : Int) - 2 = 0
    · rw [if_pos c2]
      obtain ⟨s1, s2⟩ := hskip (by unfold fv; rw [decide_eq_true ⟨c1, c2⟩]; rfl)
      rw [s1, s2]
      exact ⟨sm, rfl, mS_rfl n sm⟩
    · rw [if_neg c2]
      exact main (fun z => c2 z.2)
  · rw [if_neg c1]
    exact main (fun z => c1 z.1)
theorem e_mfearR {sm : XS} {n m : Nat} {A B C : Nat → Int} (h6 : n ≤ 6) (hok : gz_ok A B n) (hm : mL sm n A B C) (hn : sm.1 0 0 = zI (n : Int)) (w : Bool) {x3 : Int32} (hx3 : w = false → m < 2 ^ n ∧ x3 = zI (m : Int)) {i : Nat} (hi : i < 3) (L K : Nat) : ∃ r, xo_lp (fun q : (Int32 × Int32 × Int32 × XS) => F_Mod_fear_b68 (zI (if w then 1 else 0)) x3 (zI (i : Int)) q.1 q.2.1 q.2.2.1 q.2.2.2) 1000000 (zI (L : Int), zI (K : Int), (-2 : Int32), sm) = some r ∧ r.1 = zI ((L + fb_sm (fl A B n (i : Int)) 5 : Nat) : Int) ∧ r.2.1 = zI ((K + fb_sm (fk A B C n w m (i : Int)) 5 : Nat) : Int) ∧ mS n sm r.2.2 := by
  refine lp_inv (fun (j : Nat) (x : Int32 × Int32 × Int32 × XS) => x.1 = zI ((L + fb_sm (fl A B n (i : Int)) j : Nat) : Int) ∧ x.2.1 = zI ((K + fb_sm (fk A B C n w m (i : Int)) j : Nat) : Int) ∧ x.2.2.1 = ix 2 j ∧ mS n sm x.2.2.2) _ 5 1000000 _ (by omega) ⟨rfl, rfl, rfl, mS_rfl n sm⟩ ?_ ?_
  · rintro j ⟨x, y, z, t⟩ hj ⟨e1, e2, e3, e4⟩
    dsimp only at e1 e2 e3 e4 ⊢
    subst e1; subst e2; subst e3
    obtain ⟨t2, g1, g2⟩ := e_mfearC (C := C) h6 hok (mL_S hm e4) ((e4.2.1 0 (by omega)).trans hn) w hx3 hi hj (L + fb_sm (fl A B n (i : Int)) j) (K + fb_sm (fk A B C n w m (i : Int)) j)
    rw [g1]
    refine ⟨_, rfl, ?_, ?_, rfl, mS_trans e4 g2⟩
    · rw [fb_sm_succ, ← Nat.add_assoc]
    · rw [fb_sm_succ, ← Nat.add_assoc]
  · rintro ⟨x, y, z, t⟩ ⟨e1, e2, e3, e4⟩
    dsimp only at e1 e2 e3 e4 ⊢
    subst e1; subst e2; subst e3
    unfold F_Mod_fear_b68
    rw [if_pos ((ix2_ge (by omega)).mpr (by omega))]
    exact ⟨_, rfl, rfl, rfl, e4⟩
theorem e_mfearA {sm : XS} {n m : Nat} {A B C : Nat → Int} (h6 : n ≤ 6) (hok : gz_ok A B n) (hm : mL sm n A B C) (hn : sm.1 0 0 = zI (n : Int)) (w : Bool) {x3 : Int32} (hx3 : w = false → m < 2 ^ n ∧ x3 = zI (m : Int)) : ∃ t, F_Mod_fear_m49 (zI (if w then 1 else 0)) x3 sm = some (zI ((if w then fL A B n 3 else fK A B C n w m 3 : Nat) : Int), t) ∧ mS n sm t := by
  unfold F_Mod_fear_m49
  have hl : ∃ r, xo_lp (fun q : (Int32 × Int32 × Int32 × XS) => F_Mod_fear_b58 (zI (if w then 1 else 0)) x3 q.1 q.2.1 q.2.2.1 q.2.2.2) 1000000 ((0 : Int32), (0 : Int32), (0 : Int32), sm) = some r ∧ r.1 = zI ((fL A B n 3 : Nat) : Int) ∧ r.2.1 = zI ((fK A B C n w m 3 : Nat) : Int) ∧ mS n sm r.2.2 := by
    refine lp_inv (fun (i : Nat) (x : Int32 × Int32 × Int32 × XS) => x.1 = zI ((fL A B n i : Nat) : Int) ∧ x.2.1 = zI ((fK A B C n w m i : Nat) : Int) ∧ x.2.2.1 = zI (i : Int) ∧ mS n sm x.2.2.2) _ 3 1000000 _ (by omega) ⟨rfl, rfl, rfl, mS_rfl n sm⟩ ?_ ?_
    · rintro i ⟨x, y, z, t⟩ hi ⟨e1, e2, e3, e4⟩
      dsimp only at e1 e2 e3 e4 ⊢
      subst e1; subst e2; subst e3
      unfold F_Mod_fear_b58
      obtain ⟨⟨r1, r2, r3⟩, g1, g2, g3, g4⟩ := e_mfearR (C := C) h6 hok (mL_S hm e4) ((e4.2.1 0 (by omega)).trans hn) w hx3 hi (fL A B n i) (fK A B C n w m i)
      dsimp only at g2 g3 g4
      rw [show (3 : Int32) = zI ((3 : Nat) : Int) from rfl, if_neg (zI_ge1 (by omega) hi), g1, Option.bind_some]
      unfold xo_u3
      dsimp only
      rw [xo_nm_b, zI_suc]
      exact ⟨_, rfl, g2, g3, rfl, mS_trans e4 g4⟩
    · rintro ⟨x, y, z, t⟩ ⟨e1, e2, e3, e4⟩
      dsimp only at e1 e2 e3 e4 ⊢
      subst e1; subst e2; subst e3
      unfold F_Mod_fear_b58
      rw [if_pos (show (3 : Int32) ≤ zI ((3 : Nat) : Int) by decide)]
      exact ⟨_, rfl, rfl, rfl, e4⟩
  obtain ⟨⟨r1, r2, r3⟩, g1, g2, g3, g4⟩ := hl
  dsimp only at g2 g3 g4
  rw [g1, Option.bind_some]
  unfold xo_u3
  dsimp only
  rw [g2, g3]
  refine ⟨r3, ?_, g4⟩
  cases w with
  | true => rw [if_neg (show ¬ zI (if true = true then 1 else 0) = (0 : Int32) by decide), if_pos rfl]
  | false => rw [if_pos (show zI (if false = true then 1 else 0) = (0 : Int32) from rfl), if_neg (by decide)]
theorem s_fear (sc sm : XS) (x1 x2 : Int32) (h : xz_RR sc sm) : ∃ (r : Int32) (sc2 sm2 : XS), F_All_fear x1 x2 sc = some (r, sc2) ∧ F_Mod_fear x1 x2 sm = some (r, sm2) ∧ xz_RR sc2 sm2 := by
  obtain ⟨x, hx, rfl⟩ := zI_of x1
  obtain ⟨y, hy, rfl⟩ := zI_of x2
  have hq := h
  obtain ⟨⟨n, A, B, C, Kd, P, X, Y, hc, hok, hpl, hkd, hp, hn, hm, hpm⟩, h2, h3, h4, h5⟩ := h
  have h6 := hc.2.1
  unfold F_All_fear F_Mod_fear F_All_fear_m33
  have hw : F_Mod_within (zI y) (0 : Int32) (1 : Int32) = some (zI (if 0 ≤ y ∧ y ≤ 1 then 1 else 0)) := e_mwithin (a := 0) (b := 1) hy (by decide) (by decide)
  have k0 : zI y = (0 : Int32) ↔ y = 0 := zi_eq hy (by decide) _ _ rfl rfl
  have k1 : zI y = (1 : Int32) ↔ y = 1 := zi_eq hy (by decide) _ _ rfl rfl
  rw [e_hasPlot hp hx, e_misPlot hpm.1 hpm.2.1 hx, Option.bind_some, Option.bind_some, hw]
  simp only [k0, k1]
  by_cases c : 0 ≤ x ∧ x < (P : Int)
  · obtain ⟨p, rfl⟩ : ∃ p : Nat, x = p := ⟨x.toNat, by omega⟩
    rw [if_pos c, if_neg (show ¬ zI 1 = 0 by decide), if_neg (show ¬ zI 1 = 0 by decide), Option.bind_some]
    rw [e_qPlot hc hp (show p < P by omega), e_mwhere hm hn hpm (show p < P by omega)]
    simp only [Option.bind_some]
    by_cases c0 : y = 0
    · subst c0
      rw [if_pos rfl, if_pos rfl, if_pos (show (0 : Int) ≤ 0 ∧ (0 : Int) ≤ 1 by omega), if_neg (show ¬ zI 1 = 0 by decide), if_pos rfl]
      by_cases hz : gw_z A B C n (X p) (Y p) = true
      · have e9 := (gw_9 (A := A) (B := B) (C := C) h6 _ _).mpr hz
        rw [if_pos e9, if_pos e9]
        exact ⟨_, _, _, rfl, rfl, hq⟩
      · have e9 : ¬ zI (gw A B C n (X p) (Y p)) = (-9 : Int32) := fun z => hz ((gw_9 h6 _ _).mp z)
        rw [if_neg e9, if_neg e9, gw_n hz]
        have hb := gw_b_pw A B C n (X p) (Y p)
        have h64 := p2_64 h6
        have g1 := e_fearA (A := A) (B := B) (C := C) hc false (m := gw_b A B C n (X p) (Y p)) (x3 := zI (gw_b A B C n (X p) (Y p) : Int)) (fun _ => ⟨by omega, rfl⟩)
        obtain ⟨t, g2, g3⟩ := e_mfearA (A := A) (B := B) (C := C) h6 hok hm hn false (m := gw_b A B C n (X p) (Y p)) (x3 := zI (gw_b A B C n (X p) (Y p) : Int)) (fun _ => ⟨hb, rfl⟩)
        exact ⟨_, _, _, g1, g2, RR_S hq hn (by omega) g3⟩
    · rw [if_neg c0, if_neg c0]
      by_cases c1 : y = 1
      · subst c1
        rw [if_pos rfl, if_pos (show (0 : Int) ≤ 1 ∧ (1 : Int) ≤ 1 by omega), if_neg (show ¬ zI 1 = 0 by decide), if_neg c0]
        have g1 := e_fearA (A := A) (B := B) (C := C) hc true (m := 0) (x3 := zI (gw A B C n (X p) (Y p))) (fun z => by cases z)
        obtain ⟨t, g2, g3⟩ := e_mfearA (A := A) (B := B) (C := C) h6 hok hm hn true (m := 0) (x3 := zI (gw A B C n (X p) (Y p))) (fun z => by cases z)
        exact ⟨_, _, _, g1, g2, RR_S hq hn (by omega) g3⟩
      · rw [if_neg c1, if_neg (show ¬ (0 ≤ y ∧ y ≤ 1) by omega), if_pos (show zI 0 = 0 from rfl)]
        exact st_no2 hq
  · rw [if_neg c, if_pos (show zI 0 = 0 from rfl), if_pos (show zI 0 = 0 from rfl)]
    exact st_no1 hq
