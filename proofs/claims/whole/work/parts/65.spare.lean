/-! spare -/
def ix (o : Int) (i : Nat) : Int32 := zI ((i : Int) - o)
theorem ix_suc (o : Int) (i : Nat) : ix o i + (1 : Int32) = ix o (i + 1) := by
  unfold ix
  rw [zI_1, zI_add, show (i : Int) - o + 1 = ((i + 1 : Nat) : Int) - o by omega]
theorem ix_B {o : Int} {i : Nat} (h1 : -1000 ≤ o) (h2 : o ≤ 1000) (h3 : i ≤ 1000) : zB ((i : Int) - o) := ⟨by omega, by omega⟩
theorem ix_ab {i : Nat} (h : i < 199) : ab 99 ((i : Int) - 99) := by unfold ab; omega
theorem ix_gt {i : Nat} (h : i ≤ 1000) : (99 : Int32) < ix 99 i ↔ 199 ≤ i := by
  unfold ix
  rw [show (99 : Int32) = zI 99 from rfl, zI_lt (by decide) (ix_B (by omega) (by omega) h)]; omega
theorem ix_ge {i : Nat} (h : i ≤ 1000) : (100 : Int32) ≤ ix 99 i ↔ 199 ≤ i := by
  unfold ix
  rw [show (100 : Int32) = zI 100 from rfl, zI_le (by decide) (ix_B (by omega) (by omega) h)]; omega
def sp_b (A B C X Y : Nat → Int) (n : Nat) (a b r : Int) (k : Nat) : Bool := decide (a * X k + b * Y k = r) || (!(gw_z A B C n (X k) (Y k)) && gc_K A B C a b r n n (gw_b A B C n (X k) (Y k)))
theorem sp_iff {A B C X Y : Nat → Int} {n P : Nat} {a b r : Int} (h6 : n ≤ 6) : an (sp_b A B C X Y n a b r) P = true ↔ an (fun k => decide (a * X k + b * Y k = r)) P = true ∨ ∃ m, m < 64 ∧ gc_K A B C a b r n n m = true ∧ gq_P A B C X Y n P m = true := by
  unfold gq_P
  rw [an_iff, an_iff]
  constructor
  · rintro ⟨k, hk, h⟩
    unfold sp_b at h
    rw [Bool.or_eq_true, Bool.and_eq_true, Bool.not_eq_true'] at h
    rcases h with h | ⟨h1, h2⟩
    · exact Or.inl ⟨k, hk, h⟩
    · refine Or.inr ⟨gw_b A B C n (X k) (Y k), gw_b_lt h6 _ _, h2, an_iff.mpr ⟨k, hk, ?_⟩⟩
      rw [gw_n (by rw [h1]; decide)]; simp
  · rintro (⟨k, hk, h⟩ | ⟨m, hm, h1, h2⟩)
    · exact ⟨k, hk, by unfold sp_b; rw [h, Bool.true_or]⟩
    · obtain ⟨k, hk, h3⟩ := an_iff.mp h2
      refine ⟨k, hk, ?_⟩
      rw [decide_eq_true_eq] at h3
      unfold sp_b
      by_cases hz : gw_z A B C n (X k) (Y k) = true
      · rw [gw_p hz] at h3; omega
      · rw [gw_n hz] at h3
        have e : m = gw_b A B C n (X k) (Y k) := by omega
        rw [← e, h1]
        simp [hz]
theorem lS_z {S : Nat → Bool} : (lg_cmp (lS S) (0 : Int64) = (0 : Int32)) ↔ ∀ m, m < 64 → S m = false := by
  rw [lg_cmp_eq, lS_0]
  constructor
  · intro h m hm
    exact lS_inj h m hm
  · intro h
    exact lS_cong h
def sa (P : Nat → Bool) : Int32 := zI (if fi P 199 = -9 then -999 else fi P 199 - 99)
theorem sa_hit {P : Nat → Bool} {i : Nat} (h : fi P i = -9) (hp : P i = true) (hi : i < 199) : sa P = ix 99 i := by
  unfold sa ix
  rw [fi_hit h hp hi, if_neg (by omega)]
theorem sa_no {P : Nat → Bool} (h : fi P 199 = -9) : sa P = (-999 : Int32) := by
  unfold sa
  rw [if_pos h]; rfl
def sg (A B C X Y : Nat → Int) (n P : Nat) (a b : Int) (i : Nat) : Bool := !(an (sp_b A B C X Y n a b ((i : Int) - 99)) P)
theorem e_spare {sc : XS} {n P : Nat} {A B C X Y : Nat → Int} (hc : cL sc n A B C) (hp : pL sc P X Y) {a b : Int} (ha : ab 9 a) (hb : ab 9 b) : ∃ r, xo_lp (fun q : Int32 => F_All_spare_b31 (zI a) (zI b) (lS (gq_P A B C X Y n P)) sc q) 1000000 (-99 : Int32) = some r ∧ Sum.elim (fun o => o) (fun _ => (-999 : Int32)) r = sa (sg A B C X Y n P a b) := by
  have h6 := hc.2.1
  refine lp_ex (fun (i : Nat) (x : Int32) => x = ix 99 i ∧ fi (sg A B C X Y n P a b) i = -9) _ 199 1000000 _ (by omega) ⟨rfl, rfl⟩ ?_ ?_
  · rintro i x hi ⟨rfl, h2⟩
    have hr := ix_ab hi
    unfold F_All_spare_b31
    rw [if_neg (fun z => by have := (ix_gt (by omega)).mp z; omega), xo_nm_b, ix_suc]
    have e1 : F_Tow_hasPlotOn (zI a) (zI b) (ix 99 i) sc = some (zI (if an (fun k => decide (a * X k + b * Y k = (i : Int) - 99)) P = true then 1 else 0)) := e_hasPlotOn hp ha hb hr
    have e2 : F_Pla_cutBy (zI a) (zI b) (ix 99 i) sc = some (lS (gc_K A B C a b ((i : Int) - 99) n n)) := e_cut hc ha hb hr
    rw [e1, Option.bind_some, e2, Option.bind_some, lS_and]
    have hs := sp_iff (A := A) (B := B) (C := C) (X := X) (Y := Y) (P := P) (a := a) (b := b) (r := (i : Int) - 99) h6
    by_cases c1 : an (fun k => decide (a * X k + b * Y k = (i : Int) - 99)) P = true
    · rw [if_pos c1, if_neg (by decide)]
      refine Or.inl ⟨_, rfl, rfl, ?_⟩
      rw [fi_suc, if_pos h2, if_neg (by unfold sg; rw [hs.mpr (Or.inl c1)]; decide)]
    · rw [if_neg c1, if_pos (show zI 0 = 0 from rfl)]
      by_cases c2 : ∃ m, m < 64 ∧ gc_K A B C a b ((i : Int) - 99) n n m = true ∧ gq_P A B C X Y n P m = true
      · rw [if_neg (by
          rw [lS_z]
          intro z
          obtain ⟨m, g1, g2, g3⟩ := c2
          have := z m g1
          rw [g2, g3] at this
          cases this)]
        refine Or.inl ⟨_, rfl, rfl, ?_⟩
        rw [fi_suc, if_pos h2, if_neg (by unfold sg; rw [hs.mpr (Or.inr c2)]; decide)]
      · rw [if_pos (by
          rw [lS_z]
          intro m hm
          rw [Bool.eq_false_iff, Ne, Bool.and_eq_true]
          exact fun z => c2 ⟨m, hm, z.1, z.2⟩)]
        refine Or.inr ⟨_, rfl, ?_⟩
        have hg : sg A B C X Y n P a b i = true := by
          unfold sg
          rw [Bool.not_eq_true', Bool.eq_false_iff, Ne, hs]
          exact fun z => z.elim c1 c2
        rw [sa_hit h2 hg hi]; rfl
  · rintro x ⟨rfl, h2⟩
    unfold F_All_spare_b31
    rw [if_pos ((ix_gt (by omega)).mpr (by omega))]
    exact ⟨_, rfl, by rw [sa_no h2]; rfl⟩
theorem e_sp1 {t : XS} {n P : Nat} {A B C X Y : Nat → Int} {a b r : Int} (h6 : n ≤ 6) (hok : gz_ok A B n) (hpq : a ≠ 0 ∨ b ≠ 0) (hne : ∀ t, t < n → gz_t A B a b t ≠ 0) (ha : ab 9 a) (hb : ab 9 b) (hr : ab 99 r) (hm : mL t n A B C) (hn : t.1 0 0 = zI (n : Int)) (hpm : pM t P X Y) (h : ∀ q', q' < 128 → t.1 18 q' = zI ((gy_c (ex A n a) (ex B n b) (ex C n r) (n + 1) q' : Nat) : Int)) : xo_lp (fun q : (Int32 × Int32) => F_Mod_spare_b98 (zI a) (zI b) (zI r) t q.1 q.2) 1000000 ((1 : Int32), (0 : Int32)) = some (zI (if an (sp_b A B C X Y n a b r) P = true then 0 else 1)) := by
  have h8 := hpm.2.1
  refine lp_run (fun k => (zI (if an (sp_b A B C X Y n a b r) k = true then 0 else 1), zI (k : Int))) P 1000000 (by omega) (fun k hk => ?_) ?_
  · unfold F_Mod_spare_b98
    dsimp only
    obtain ⟨g1, g2, g3, g4⟩ := hpm.2.2 k hk
    have hb2 := gw_b_pw A B C n (X k) (Y k)
    rw [hpm.1, if_neg (zI_ge1 (by omega) hk), e_mwhere hm hn hpm hk, Option.bind_some, xo_rd_z (show k < 8 by omega) (by decide), Option.bind_some, xo_rd_z (show k < 8 by omega) (by decide), Option.bind_some, g1, g2, zI_mul, zI_mul, zI_add, an_suc]
    simp only [xo_nm_b, zI_suc]
    have hc1 : (zI (a * X k + b * Y k) = zI r) ↔ a * X k + b * Y k = r := zI_eq (ab_B (ab_add (ab_mul ha g3) (ab_mul hb g4)) (by decide)) (ab_B hr (by decide))
    by_cases c1 : a * X k + b * Y k = r
    · rw [if_pos (hc1.mpr c1)]
      have e : sp_b A B C X Y n a b r k = true := by unfold sp_b; rw [decide_eq_true c1, Bool.true_or]
      rw [e, Bool.or_true, if_pos rfl]; rfl
    · rw [if_neg (fun z => c1 (hc1.mp z))]
      by_cases hz : gw_z A B C n (X k) (Y k) = true
      · rw [if_pos ((gw_9 h6 _ _).mpr hz)]
        have e : sp_b A B C X Y n a b r k = false := by unfold sp_b; rw [decide_eq_false c1, hz]; rfl
        rw [e, Bool.or_false]
      · have hz' : gw_z A B C n (X k) (Y k) = false := by simpa using hz
        rw [if_neg (fun z => hz ((gw_9 h6 _ _).mp z)), gw_n hz, e_cuts h6 hok hpq hne hn h hb2, Option.bind_some]
        by_cases c2 : gc_K A B C a b r n n (gw_b A B C n (X k) (Y k)) = true
        · rw [if_pos c2, if_neg (by decide)]
          have e : sp_b A B C X Y n a b r k = true := by unfold sp_b; rw [hz', c2]; simp
          rw [e, Bool.or_true, if_pos rfl]; rfl
        · rw [if_neg c2, if_pos (show zI 0 = 0 from rfl)]
          have e : sp_b A B C X Y n a b r k = false := by unfold sp_b; rw [decide_eq_false c1]; simpa using fun _ => c2
          rw [e, Bool.or_false]
  · unfold F_Mod_spare_b98
    dsimp only
    rw [hpm.1, if_pos (zI_rfl _)]
theorem e_mspareL {sm : XS} {n P : Nat} {A B C X Y : Nat → Int} {a b : Int} (h6 : n ≤ 6) (hok : gz_ok A B n) (hpq : a ≠ 0 ∨ b ≠ 0) (hne : ∀ t, t < n → gz_t A B a b t ≠ 0) (ha : ab 9 a) (hb : ab 9 b) (hm : mL sm n A B C) (hn : sm.1 0 0 = zI (n : Int)) (hpm : pM sm P X Y) : ∃ r, xo_lp (fun q : (Int32 × XS) => F_Mod_spare_b69 (zI a) (zI b) q.1 q.2) 1000000 ((-99 : Int32), sm) = some r ∧ ∃ t, mS n sm t ∧ Sum.elim (xo_u2 fun o16 t17 => some (o16, t17)) (fun t18 => some ((-999 : Int32), t18)) r = some (sa (sg A B C X Y n P a b), t) := by
  refine lp_ex (fun (i : Nat) (x : Int32 × XS) => x.1 = ix 99 i ∧ mS n sm x.2 ∧ fi (sg A B C X Y n P a b) i = -9) _ 199 1000000 _ (by omega) ⟨rfl, mS_rfl n sm, rfl⟩ ?_ ?_
  · rintro i ⟨x, t⟩ hi ⟨e1, e2, h2⟩
    dsimp only at e1 e2 h2 ⊢
    subst e1
    have hr := ix_ab hi
    unfold F_Mod_spare_b69
    have hnt : t.1 0 0 = zI (n : Int) := (e2.2.1 0 (by omega)).trans hn
    obtain ⟨t1, t2, g1, g2, g3, g4⟩ := e_thlay h6 (mL_S hm e2) hnt ha hb hr
    have g1' : F_Mod_think (zI a) (zI b) (ix 99 i) t = some t1 := g1
    have hS := mS_trans e2 g3
    have h1 := e_sp1 (X := X) (Y := Y) (P := P) h6 hok hpq hne ha hb hr (mL_S hm hS) ((hS.2.1 0 (by omega)).trans hn) (pM_S hpm hS) g4
    have h1' : xo_lp (fun q : (Int32 × Int32) => F_Mod_spare_b98 (zI a) (zI b) (ix 99 i) t2 q.1 q.2) 1000000 ((1 : Int32), (0 : Int32)) = some (zI (if an (sp_b A B C X Y n a b ((i : Int) - 99)) P = true then 0 else 1)) := h1
    rw [if_neg (fun z => by have := (ix_ge (by omega)).mp z; omega), g1', Option.bind_some, g2, Option.bind_some, h1', Option.bind_some, xo_nm_b, ix_suc]
    by_cases c : an (sp_b A B C X Y n a b ((i : Int) - 99)) P = true
    · rw [if_pos c, if_pos (show zI 0 = 0 from rfl)]
      refine Or.inl ⟨_, rfl, rfl, hS, ?_⟩
      rw [fi_suc, if_pos h2, if_neg (by unfold sg; rw [c]; decide)]
    · rw [if_neg c, if_neg (by decide)]
      have hg : sg A B C X Y n P a b i = true := by
        unfold sg; simpa using c
      refine Or.inr ⟨_, rfl, t2, hS, ?_⟩
      rw [sa_hit h2 hg hi]; rfl
  · rintro ⟨x, t⟩ ⟨e1, e2, h2⟩
    dsimp only at e1 e2 h2 ⊢
    subst e1
    unfold F_Mod_spare_b69
    rw [if_pos ((ix_ge (by omega)).mpr (by omega))]
    exact ⟨_, rfl, t, e2, by rw [sa_no h2]; rfl⟩
theorem s_spare (sc sm : XS) (x1 x2 : Int32) (h : xz_RR sc sm) : ∃ (r : Int32) (sc2 sm2 : XS), F_All_spare x1 x2 sc = some (r, sc2) ∧ F_Mod_spare x1 x2 sm = some (r, sm2) ∧ xz_RR sc2 sm2 := by
  obtain ⟨a, ha, rfl⟩ := zI_of x1
  obtain ⟨b, hb, rfl⟩ := zI_of x2
  have hq := h
  obtain ⟨⟨n, A, B, C, Kd, P, X, Y, hc, hok, hpl, hkd, hp, hn, hm, hpm⟩, h2, h3, h4, h5⟩ := h
  have h6 := hc.2.1
  have hw : F_All_whyNoNewLine (zI a) (zI b) (0 : Int32) sc = some (zI (if gwhy a b 0 = 0 then (if an (fun s => decide (gz_t A B a b s = 0)) n = true then -3 else 0) else gwhy a b 0)) := e_whyNew (c := 0) hc ha hb (by decide)
  rw [e_mspare ha hb]
  unfold F_All_spare F_Mod_spare_m12 F_Mod_spare_m31 F_Mod_spare_m46 F_Mod_spare_m59
  rw [hw, Option.bind_some]
  rcases gwhy_or a b 0 with e | e | e | e
  · rw [e, if_neg (show ¬ (-4 : Int) = 0 by decide), if_neg (show ¬ zI (-4) = 0 by decide), if_pos (show (-4 : Int) = -4 from rfl)]
    exact st_far4 hq
  · rw [e, if_neg (show ¬ (-6 : Int) = 0 by decide), if_neg (show ¬ zI (-6) = 0 by decide), if_neg (show ¬ (-6 : Int) = -4 by decide), if_pos (show (-6 : Int) = -6 from rfl)]
    exact st_far6 hq
  · rw [e, if_neg (show ¬ (-3 : Int) = 0 by decide), if_neg (show ¬ zI (-3) = 0 by decide), if_neg (show ¬ (-3 : Int) = -4 by decide), if_neg (show ¬ (-3 : Int) = -6 by decide), if_pos (show (-3 : Int) = -3 from rfl)]
    exact st_far3 hq
  · obtain ⟨w1, w2, w3, w4⟩ := gwhy_0 e
    rw [e, if_pos rfl, if_neg (by decide : ¬ (0 : Int) = -4), if_neg (by decide : ¬ (0 : Int) = -6), if_neg (by decide : ¬ (0 : Int) = -3), hn, e_misDir hm w1 w2, Option.bind_some]
    by_cases hdr : an (fun s => decide (gz_t A B a b s = 0)) n = true
    · rw [if_pos hdr, if_pos hdr, if_neg (show ¬ zI (-3) = 0 by decide), if_neg (show ¬ zI 1 = 0 by decide)]
      exact st_far3 hq
    · rw [if_neg hdr, if_neg hdr, if_pos (show zI 0 = 0 from rfl), if_pos (show zI 0 = 0 from rfl), e_qWithPlots hc hp, Option.bind_some]
      obtain ⟨r1, k1, k2⟩ := e_spare hc hp w1 w2
      obtain ⟨r2, k3, t, k4, k5⟩ := e_mspareL h6 hok w4 (an_dir hdr) w1 w2 hm hn hpm
      rw [k1, k3, Option.bind_some, Option.bind_some, k5]
      refine ⟨_, sc, t, ?_, rfl, RR_S hq hn (by omega) k4⟩
      rw [← k2]
      rcases r1 with r1 | r1
      · rfl
      · rfl
