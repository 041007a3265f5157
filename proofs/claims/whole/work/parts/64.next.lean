/-! next: how many a told line would cut, and whether that of a plot -/
theorem gc_K_big {A B C : Nat → Int} {p q r : Int} {n m : Nat} (h : 2 ^ n ≤ m) : gc_K A B C p q r n n m = false := by
  rw [Bool.eq_false_iff, Ne, gc_K_iff]
  omega
theorem ct_pw {P : Nat → Bool} {n : Nat} (h6 : n ≤ 6) (h : ∀ m, 2 ^ n ≤ m → P m = false) : fb_ct P 64 = fb_ct P (2 ^ n) := by
  have h64 := p2_64 h6
  obtain ⟨d, hd⟩ : ∃ d, 64 = 2 ^ n + d := ⟨64 - 2 ^ n, by omega⟩
  rw [hd, fb_ct_split]
  have : fb_ct (fun k => P (2 ^ n + k)) d = 0 := fb_ct_zero.mpr (fun k _ => h _ (by omega))
  omega
theorem gw_b_pw (A B C : Nat → Int) (n : Nat) (x y : Int) : gw_b A B C n x y < 2 ^ n := bm_lt _ n
theorem e_hasN (P : Nat → Bool) {k : Nat} (hk : k < 64) : F_All_has (lS P) (zI (k : Int)) = some (zI (if P k = true then 1 else 0)) := by
  rw [e_has P (zB_n (by omega))]
  have e : (↑k : Int).toNat = k := rfl
  rw [e]
  by_cases hQ : P k = true
  · rw [if_pos (show (0 : Int) ≤ (k : Int) ∧ (k : Int) < 64 ∧ P k = true from ⟨by omega, by omega, hQ⟩), if_pos hQ]
  · rw [if_neg (show ¬ ((0 : Int) ≤ (k : Int) ∧ (k : Int) < 64 ∧ P k = true) from fun z => hQ z.2.2), if_neg hQ]
theorem mL_S {st t : XS} {n : Nat} {A B C : Nat → Int} (h : mL st n A B C) (e : mS n st t) : mL t n A B C := by
  refine ⟨h.1, fun s hs => ?_, h.2.2⟩
  obtain ⟨g1, g2, g3⟩ := e.2.2 s hs
  rw [g1, g2, g3]; exact h.2.1 s hs
theorem pM_S {st t : XS} {n P : Nat} {X Y : Nat → Int} (h : pM st P X Y) (e : mS n st t) : pM t P X Y := by
  unfold pM at *
  rw [e.2.1 5 (by omega), e.1 6 (by omega), e.1 7 (by omega)]; exact h
theorem RR_S {sc sm tm : XS} {n : Nat} (h : xz_RR sc sm) (hn : sm.1 0 0 = zI (n : Int)) (hn6 : n ≤ 7) (g : mS n sm tm) : xz_RR sc tm := by
  refine RR_mS h (fun n2 A B C Kd P X Y hR => ?_)
  have h1 := hR.2.2.2.2.2.1
  have h2 := hR.1.2.1
  rw [hn, zI_eq (zB_n (by omega)) (zB_n (by omega)), Int.ofNat_inj] at h1
  subst h1
  exact g
/-- what next answers when the line is as it must be -/
theorem s_next_ok (sc sm : XS) (h : xz_RR sc sm) {a b c d : Int} (hd : zB d) {n : Nat} {A B C : Nat → Int} {Kd : Nat → Nat} {P : Nat} {X Y : Nat → Int} (hR : xR sc sm n A B C Kd P X Y) (h0 : gwhy a b c = 0) (hdir : ∀ t, t < n → gz_t A B a b t ≠ 0) (hdP : d = -1 ∨ (0 ≤ d ∧ d < (P : Int))) :
    ∃ (r : Int32) (sc2 sm2 : XS), (if zI d = (-1 : Int32) then (F_Pla_cutBy (zI a) (zI b) (zI c) sc).bind fun v2 => (F_Lng_bitCount v2).bind fun v3 => some (v3, sc) else (F_Pla_quarterOfPlot (zI d) sc).bind fun v4 => if v4 = (-9 : Int32) then some ((-9 : Int32), sc) else (F_Pla_cutBy (zI a) (zI b) (zI c) sc).bind fun v5 => (F_All_has v5 v4).bind fun v6 => if v6 = (0 : Int32) then some ((0 : Int32), sc) else some ((1 : Int32), sc)) = some (r, sc2) ∧
      ((F_Mod_think (zI a) (zI b) (zI c) sm).bind fun t8 => (F_Mod_lay ((t8.1 0 0) + (1 : Int32)) t8).bind fun t9 => if zI d = (-1 : Int32) then (xo_lp (fun q : (Int32 × Int32) => F_Mod_next_b128 t9 q.1 q.2) 1000000 ((0 : Int32), (0 : Int32))).bind (fun o10 => some (o10, t9)) else (F_Mod_whereIs (zI d) t9).bind fun v11 => if v11 = (-9 : Int32) then some ((-9 : Int32), t9) else (F_Mod_cuts v11 t9).bind fun v12 => if v12 = (0 : Int32) then some ((0 : Int32), t9) else some ((1 : Int32), t9)) = some (r, sm2) ∧ xz_RR sc2 sm2 := by
  obtain ⟨hc, hok, hpl, hkd, hp, hn, hm, hpm⟩ := hR
  have h6 := hc.2.1
  have h64 := p2_64 h6
  obtain ⟨w1, w2, w3, w4⟩ := gwhy_0 h0
  obtain ⟨t1, t, g1, g2, g3, g4⟩ := e_thlay h6 hm hn w1 w2 w3
  have hnt : t.1 0 0 = zI (n : Int) := (g3.2.1 0 (by omega)).trans hn
  have hRR : xz_RR sc t := RR_S h hn (by omega) g3
  have hcu := e_cut hc w1 w2 w3
  rw [g1, Option.bind_some, g2, Option.bind_some, hcu]
  by_cases c1 : d = -1
  · subst c1
    rw [if_pos (show zI (-1) = (-1 : Int32) from rfl), if_pos (show zI (-1) = (-1 : Int32) from rfl), Option.bind_some, e_count, Option.bind_some, ct_pw h6 (fun m hm => gc_K_big hm)]
    rw [lp_cnt (gc_K A B C a b c n n) (2 ^ n) (by omega) (fun k c hk => ?_) (fun c => ?_)]
    · exact ⟨_, _, _, rfl, rfl, hRR⟩
    · unfold F_Mod_next_b128
      dsimp only
      rw [hnt, zI_bit n (by omega), if_neg (zI_ge1 (by omega) hk), e_cuts h6 hok w4 hdir hnt g4 hk, Option.bind_some, xo_nm_b, xo_nm_b, xo_nm_b, zI_suc, zI_suc]
      by_cases hk1 : gc_K A B C a b ‹Int› n n k = true
      · rw [if_pos hk1, if_neg (by decide), if_pos hk1]
      · rw [if_neg hk1, if_pos (show zI 0 = 0 from rfl), if_neg hk1]; rfl
    · unfold F_Mod_next_b128
      dsimp only
      rw [hnt, zI_bit n (by omega), if_pos (zI_rfl _)]
  · obtain ⟨p, rfl⟩ : ∃ p : Nat, d = p := ⟨d.toNat, by omega⟩
    have hne : ¬ zI (p : Int) = (-1 : Int32) := by
      rw [show (-1 : Int32) = zI (-1) from rfl, zI_eq hd (by decide)]; exact c1
    rw [if_neg hne, if_neg hne, e_qPlot hc hp (show p < P by omega), Option.bind_some, e_mwhere (mL_S hm g3) hnt (pM_S hpm g3) (show p < P by omega)]
    simp only [Option.bind_some]
    by_cases hz : gw_z A B C n (X p) (Y p) = true
    · have e9 := (gw_9 (A := A) (B := B) (C := C) h6 _ _).mpr hz
      rw [if_pos e9, if_pos e9]
      exact ⟨_, _, _, rfl, rfl, hRR⟩
    · have e9 : ¬ zI (gw A B C n (X p) (Y p)) = (-9 : Int32) := fun z => hz ((gw_9 h6 _ _).mp z)
      have hb := gw_b_pw A B C n (X p) (Y p)
      rw [if_neg e9, if_neg e9, gw_n hz, e_hasN _ (show gw_b A B C n (X p) (Y p) < 64 by omega), Option.bind_some, e_cuts h6 hok w4 hdir hnt g4 hb, Option.bind_some]
      by_cases hk1 : gc_K A B C a b c n n (gw_b A B C n (X p) (Y p)) = true
      · rw [if_pos hk1, if_neg (show ¬ zI 1 = 0 by decide), if_neg (show ¬ zI 1 = 0 by decide)]
        exact ⟨_, _, _, rfl, rfl, hRR⟩
      · rw [if_neg hk1, if_pos (show zI 0 = 0 from rfl), if_pos (show zI 0 = 0 from rfl)]
        exact ⟨_, _, _, rfl, rfl, hRR⟩
theorem s_next (sc sm : XS) (x1 x2 x3 x4 : Int32) (h : xz_RR sc sm) : ∃ (r : Int32) (sc2 sm2 : XS), F_All_next x1 x2 x3 x4 sc = some (r, sc2) ∧ F_Mod_next x1 x2 x3 x4 sm = some (r, sm2) ∧ xz_RR sc2 sm2 := by
  obtain ⟨a, ha, rfl⟩ := zI_of x1
  obtain ⟨b, hb, rfl⟩ := zI_of x2
  obtain ⟨c, hc9, rfl⟩ := zI_of x3
  obtain ⟨d, hd, rfl⟩ := zI_of x4
  have hq := h
  obtain ⟨⟨n, A, B, C, Kd, P, X, Y, hR⟩, h2, h3, h4, h5⟩ := h
  have hR0 := hR
  obtain ⟨hc, hok, hpl, hkd, hp, hn, hm, hpm⟩ := hR
  have h6 := hc.2.1
  have main : (d = -1 ∨ (0 ≤ d ∧ d < (P : Int))) → ∃ (r : Int32) (sc2 sm2 : XS), F_All_next_m24 (zI a) (zI b) (zI c) (zI d) sc = some (r, sc2) ∧ F_Mod_next_m21 (zI a) (zI b) (zI c) (zI d) sm = some (r, sm2) ∧ xz_RR sc2 sm2 := by
    intro hdP
    rw [e_mnext ha hb hc9]
    unfold F_All_next_m24 F_Mod_next_m39 F_Mod_next_m64 F_Mod_next_m92 F_Mod_next_m79
    rw [e_whyNew hc ha hb hc9, Option.bind_some]
    rcases gwhy_or a b c with e | e | e | e
    · rw [e, if_neg (show ¬ (-4 : Int) = 0 by decide), if_neg (show ¬ zI (-4) = 0 by decide), if_pos (show (-4 : Int) = -4 from rfl)]
      exact st_no4 hq
    · rw [e, if_neg (show ¬ (-6 : Int) = 0 by decide), if_neg (show ¬ zI (-6) = 0 by decide), if_neg (show ¬ (-6 : Int) = -4 by decide), if_pos (show (-6 : Int) = -6 from rfl)]
      exact st_no6 hq
    · rw [e, if_neg (show ¬ (-3 : Int) = 0 by decide), if_neg (show ¬ zI (-3) = 0 by decide), if_neg (show ¬ (-3 : Int) = -4 by decide), if_neg (show ¬ (-3 : Int) = -6 by decide), if_pos (show (-3 : Int) = -3 from rfl)]
      exact st_no3 hq
    · obtain ⟨w1, w2, w3, w4⟩ := gwhy_0 e
      rw [e, if_pos rfl, if_neg (by decide : ¬ (0 : Int) = -4), if_neg (by decide : ¬ (0 : Int) = -6), if_neg (by decide : ¬ (0 : Int) = -3), hn, e_misDir hm w1 w2, Option.bind_some]
      by_cases hdr : an (fun s => decide (gz_t A B a b s = 0)) n = true
      · rw [if_pos hdr, if_pos hdr, if_neg (show ¬ zI (-3) = 0 by decide), if_neg (show ¬ zI 1 = 0 by decide)]
        exact st_no3 hq
      · rw [if_neg hdr, if_neg hdr, if_pos (show zI 0 = 0 from rfl), if_pos (show zI 0 = 0 from rfl)]
        exact s_next_ok sc sm hq hd hR0 e (an_dir hdr) hdP
  unfold F_All_next F_Mod_next
  by_cases c1 : d = -1
  · subst c1
    rw [if_pos (show zI (-1) = (-1 : Int32) from rfl), if_pos (show zI (-1) = (-1 : Int32) from rfl)]
    exact main (Or.inl rfl)
  · have hne : ¬ zI d = (-1 : Int32) := by
      rw [show (-1 : Int32) = zI (-1) from rfl, zI_eq hd (by decide)]; exact c1
    rw [if_neg hne, if_neg hne, e_hasPlot hp hd, e_misPlot hpm.1 hpm.2.1 hd, Option.bind_some, Option.bind_some]
    by_cases cP : 0 ≤ d ∧ d < (P : Int)
    · rw [if_pos cP, if_neg (by decide), if_neg (by decide)]
      exact main (Or.inr cP)
    · rw [if_neg cP, if_pos (show zI 0 = 0 from rfl), if_pos (show zI 0 = 0 from rfl)]
      exact st_no1 hq
