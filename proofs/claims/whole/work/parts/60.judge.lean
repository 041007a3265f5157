/-! the row judged -/
theorem zI_prd {k : Nat} (h : 0 < k) : zI (k : Int) - (1 : Int32) = zI ((k - 1 : Nat) : Int) := by
  rw [zI_1, zI_sub, show (k : Int) - 1 = ((k - 1 : Nat) : Int) by omega]
def jc (r : Int32 ⊕ (Int32 ⊕ Unit)) : Int32 := Sum.elim id (Sum.elim id (fun _ => -9)) r
def jb (A B C : Nat → Int) (n : Nat) (R : Nat → Nat) (k : Nat) : Bool := !(gq_Q A B C n n (R k)) || (decide (0 < k) && decide (fb_ct (R k ^^^ R (k - 1)).testBit 8 ≠ 1))
theorem e_judge {st : XS} {n l : Nat} {A B C : Nat → Int} {R : Nat → Nat} (hQ : st.2 0 = lS (gq_Q A B C n n)) (hl : l ≤ 12) (hR : ∀ i, i < l → R i < 64 ∧ st.1 31 i = zI (R i : Int)) : ∃ r, xo_lp (fun q : Int32 => F_All_judge_b12 (zI (l : Int)) st q) 1000000 (0 : Int32) = some r ∧ jc r = zI (fi (jb A B C n R) l) := by
  refine lp_ex (fun (k : Nat) (x : Int32) => x = zI (k : Int) ∧ fi (jb A B C n R) k = -9) _ l 1000000 _ (by omega) ⟨rfl, rfl⟩ ?_ ?_
  · rintro k x hk ⟨rfl, h2⟩
    obtain ⟨r1, r2⟩ := hR k hk
    unfold F_All_judge_b12
    rw [if_neg (zI_ge1 (by omega) hk), xo_rd_z (show k < 12 by omega) (by decide), Option.bind_some, r2, e_hasQn hQ r1, Option.bind_some]
    by_cases hq : gq_Q A B C n n (R k) = true
    · rw [if_pos hq, if_neg (by decide)]
      by_cases h0 : k = 0
      · subst h0
        rw [if_pos (show zI ((0 : Nat) : Int) ≤ (0 : Int32) from zI_rfl 0), xo_nm_b, zI_suc]
        refine Or.inl ⟨_, rfl, rfl, ?_⟩
        rw [fi_suc, if_pos h2, if_neg (by unfold jb; simp [hq])]
      · obtain ⟨r3, r4⟩ := hR (k - 1) (by omega)
        have e1 : zI (k : Int) - (1 : Int32) = zI ((k - 1 : Nat) : Int) := zI_prd (by omega)
        have hle := fb_ct_le (R k ^^^ R (k - 1)).testBit 8
        rw [if_neg (by rw [zI_0, zI_le (zB_n (by omega)) (by decide)]; omega), Option.bind_some, e1, xo_rd_z (show k - 1 < 12 by omega) (by decide), Option.bind_some, r4, bitc1 r1 r3, Option.bind_some, xo_nm_b, zI_suc]
        by_cases hc : fb_ct (R k ^^^ R (k - 1)).testBit 8 = 1
        · rw [if_pos (by rw [hc]; rfl)]
          refine Or.inl ⟨_, rfl, rfl, ?_⟩
          rw [fi_suc, if_pos h2, if_neg (by unfold jb; simp [hq, hc])]
        · rw [if_neg (by rw [zI_1, zI_eq (zB_n (by omega)) (by decide)]; omega)]
          refine Or.inr ⟨_, rfl, ?_⟩
          rw [fi_hit h2 (by unfold jb; simp [hc]; omega) hk]; rfl
    · rw [if_neg hq, if_pos (show zI 0 = 0 from rfl)]
      refine Or.inr ⟨_, rfl, ?_⟩
      rw [fi_hit h2 (by unfold jb; simp [hq]) hk]; rfl
  · rintro x ⟨rfl, h2⟩
    unfold F_All_judge_b12
    rw [if_pos (zI_rfl _)]
    exact ⟨_, rfl, by rw [h2]; rfl⟩
theorem e_mjudge {st : XS} {n l : Nat} {A B C : Nat → Int} {R : Nat → Nat} (h6 : n ≤ 6) (hok : gz_ok A B n) (hm : mL st n A B C) (hn : st.1 0 0 = zI (n : Int)) (hl : l ≤ 12) (hR : ∀ i, i < l → R i < 64 ∧ st.1 13 i = zI (R i : Int)) : ∃ r, xo_lp (fun q : (Int32 × XS) => F_Mod_judge_b12 (zI (l : Int)) q.1 q.2) 1000000 ((0 : Int32), st) = some r ∧ ∃ t, lU st t ∧ Sum.elim (xo_u2 fun o11 t12 => some (o11, t12)) (fun t13 => some ((-9 : Int32), t13)) r = some (zI (fi (jb A B C n R) l), t) := by
  refine lp_ex (fun (k : Nat) (x : Int32 × XS) => x.1 = zI (k : Int) ∧ lU st x.2 ∧ fi (jb A B C n R) k = -9) _ l 1000000 _ (by omega) ⟨rfl, lU_rfl st, rfl⟩ ?_ ?_
  · rintro k ⟨x, t⟩ hk ⟨e1, e2, h2⟩
    dsimp only at e1 e2 h2 ⊢
    subst e1
    obtain ⟨r1, r2⟩ := hR k hk
    have hnt : t.1 0 0 = zI (n : Int) := (e2.2.2 0 (by omega)).trans hn
    have e13 : t.1 13 = st.1 13 := e2.2.1 13 (by omega) (by omega) (by omega)
    obtain ⟨u, g1, g2⟩ := e_misQ h6 hok (mL_u hm e2) hnt (x := (R k : Int)) (zB_n (by omega))
    have hu := lU_trans e2 g2.1
    have u13 : u.1 13 = st.1 13 := hu.2.1 13 (by omega) (by omega) (by omega)
    have eR : (↑(R k) : Int).toNat = R k := rfl
    unfold F_Mod_judge_b12
    rw [if_neg (zI_ge1 (by omega) hk), xo_rd_z (show k < 12 by omega) (by decide), Option.bind_some, e13, r2, g1, eR]
    unfold xo_bn
    rw [Option.bind_some]
    dsimp only
    by_cases hq : gq_Q A B C n n (R k) = true
    · rw [if_pos (show (0 : Int) ≤ (R k : Int) ∧ (R k : Int) < 64 ∧ gq_Q A B C n n (R k) = true from ⟨by omega, by omega, hq⟩), if_neg (by decide)]
      by_cases h0 : k = 0
      · subst h0
        rw [if_pos (show zI ((0 : Nat) : Int) ≤ (0 : Int32) from zI_rfl 0), xo_nm_b, zI_suc]
        refine Or.inl ⟨_, rfl, rfl, hu, ?_⟩
        rw [fi_suc, if_pos h2, if_neg (by unfold jb; simp [hq])]
      · obtain ⟨r3, r4⟩ := hR (k - 1) (by omega)
        have e1 : zI (k : Int) - (1 : Int32) = zI ((k - 1 : Nat) : Int) := zI_prd (by omega)
        have hle := fb_ct_le (R k ^^^ R (k - 1)).testBit 8
        rw [if_neg (by rw [zI_0, zI_le (zB_n (by omega)) (by decide)]; omega), u13, xo_rd_z (show k < 12 by omega) (by decide), Option.bind_some, e1, xo_rd_z (show k - 1 < 12 by omega) (by decide), Option.bind_some, r2, r4, bitc1 r1 r3, Option.bind_some, xo_nm_b, zI_suc]
        by_cases hc : fb_ct (R k ^^^ R (k - 1)).testBit 8 = 1
        · rw [if_pos (by rw [hc]; rfl)]
          refine Or.inl ⟨_, rfl, rfl, hu, ?_⟩
          rw [fi_suc, if_pos h2, if_neg (by unfold jb; simp [hq, hc])]
        · rw [if_neg (by rw [zI_1, zI_eq (zB_n (by omega)) (by decide)]; omega)]
          refine Or.inr ⟨_, rfl, u, hu, ?_⟩
          rw [fi_hit h2 (by unfold jb; simp [hc]; omega) hk]; rfl
    · rw [if_neg (show ¬ ((0 : Int) ≤ (R k : Int) ∧ (R k : Int) < 64 ∧ gq_Q A B C n n (R k) = true) from fun z => hq z.2.2), if_pos (show zI 0 = 0 from rfl)]
      refine Or.inr ⟨_, rfl, u, hu, ?_⟩
      rw [fi_hit h2 (by unfold jb; simp [hq]) hk]; rfl
  · rintro ⟨x, t⟩ ⟨e1, e2, h2⟩
    dsimp only at e1 e2 h2 ⊢
    subst e1
    unfold F_Mod_judge_b12
    rw [if_pos (zI_rfl _)]
    exact ⟨_, rfl, t, e2, by rw [h2]; rfl⟩
theorem s_judge (sc sm : XS) (h : xz_RR sc sm) : ∃ (r : Int32) (sc2 sm2 : XS), F_All_judge sc = some (r, sc2) ∧ F_Mod_judge sm = some (r, sm2) ∧ xz_RR sc2 sm2 := by
  obtain ⟨⟨n, A, B, C, Kd, P, X, Y, h1⟩, h2, ⟨l, hl, lc, lm, hr⟩, h4, h5⟩ := h
  have hR := h1
  obtain ⟨hc, hok, hpl, hkd, hp, hn, hm, hpm⟩ := h1
  have h6 := hc.2.1
  unfold F_All_judge F_Mod_judge
  rw [lc, lm, xo_nm_b, xo_nm_b, xo_nm_b, xo_nm_b]
  have hcI : ∀ k, k ≠ 0 → (xs_I sc 0 7 (0 : Int32)).1 k = sc.1 k := fun k hk => by simp [xs_I, hk]
  have hmI : ∀ k, k ≠ 0 → (xs_I sm 0 12 (0 : Int32)).1 k = sm.1 k := fun k hk => by simp [xs_I, hk]
  have hc0 : ∀ j, j ≠ 7 → (xs_I sc 0 7 (0 : Int32)).1 0 j = sc.1 0 j := fun j hj => by simp [xs_I, upd, hj]
  have hm0 : ∀ j, j ≠ 12 → (xs_I sm 0 12 (0 : Int32)).1 0 j = sm.1 0 j := fun j hj => by simp [xs_I, upd, hj]
  have hc1 : (xs_I sc 0 7 (0 : Int32)).1 0 7 = 0 := by simp [xs_I, upd]
  have hm1 : (xs_I sm 0 12 (0 : Int32)).1 0 12 = 0 := by simp [xs_I, upd]
  have hll : (xs_I sc 0 7 (0 : Int32)).2 = sc.2 := rfl
  generalize xs_I sc 0 7 (0 : Int32) = u1 at *
  generalize xs_I sm 0 12 (0 : Int32) = u2 at *
  have hRR : xz_RR u1 u2 := ⟨⟨n, A, B, C, Kd, P, X, Y, xR_of hR (fun k _ _ => hcI k (by omega)) (fun k _ _ => hcI k (by omega)) hll (hm0 0 (by omega)) (hm0 5 (by omega)) (fun k hk => hmI k (by omega)) (fun s _ => by rw [hmI 2 (by omega), hmI 3 (by omega), hmI 4 (by omega)]; exact ⟨rfl, rfl, rfl⟩)⟩, xT_of h2 (by rw [hcI 28 (by omega)]) (hcI 29 (by omega)) (hm0 8 (by omega)) (hmI 9 (by omega)), ⟨0, by omega, hc1, hm1, fun i hi => absurd hi (Nat.not_lt_zero i)⟩, xF_of h4 (hcI 32 (by omega)) (hmI 14 (by omega)), xI_of h5 (hc0 3 (by omega)) (hm0 15 (by omega)) (fun k _ _ => hcI k (by omega)) (hmI 16 (by omega))⟩
  have hrr : ∀ i, i < l → (u1.1 31 i).toNatClampNeg < 64 ∧ u1.1 31 i = zI ((u1.1 31 i).toNatClampNeg : Int) ∧ u2.1 13 i = zI ((u1.1 31 i).toNatClampNeg : Int) := fun i hi => by
    obtain ⟨c, g1, g2, g3⟩ := hr i hi
    rw [hcI 31 (by omega), hmI 13 (by omega), g2, g3, zI_cl (by omega)]
    exact ⟨g1, rfl, rfl⟩
  obtain ⟨r1, q1, q2⟩ := e_judge (st := u1) (n := n) (l := l) (A := A) (B := B) (C := C) (R := fun i => (u1.1 31 i).toNatClampNeg) (by rw [hll]; exact hpl.2.1) hl (fun i hi => ⟨(hrr i hi).1, (hrr i hi).2.1⟩)
  obtain ⟨r2, q3, t, q4, q5⟩ := e_mjudge (st := u2) (n := n) (l := l) (A := A) (B := B) (C := C) (R := fun i => (u1.1 31 i).toNatClampNeg) h6 hok (mL_of hm (hmI 2 (by omega)) (hmI 3 (by omega)) (hmI 4 (by omega))) ((hm0 0 (by omega)).trans hn) hl (fun i hi => ⟨(hrr i hi).1, (hrr i hi).2.2⟩)
  rw [q1, q3, Option.bind_some, Option.bind_some, q5]
  refine ⟨_, u1, t, ?_, rfl, RR_m hRR q4⟩
  rw [← q2]
  rcases r1 with r1 | r1 | r1
  · rfl
  · rfl
  · rfl
