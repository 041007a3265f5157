/-! the reference keeps a town, and takes it again -/
def kp (c : Nat) (st t : XS) : Prop := t.2 = st.2 ∧ (∀ k, k ≠ c → t.1 k = st.1 k) ∧ (∀ s, s < 6 → t.1 c s = st.1 1 s ∧ t.1 c (6 + s) = st.1 2 s ∧ t.1 c (12 + s) = st.1 3 s ∧ t.1 c (18 + s) = st.1 4 s) ∧ (∀ p, p < 8 → t.1 c (24 + p) = st.1 6 p ∧ t.1 c (32 + p) = st.1 7 p) ∧ t.1 c 40 = st.1 0 0 ∧ t.1 c 41 = st.1 0 5
def ag (c : Nat) (st t : XS) : Prop := t.2 = st.2 ∧ (∀ k, k = 5 ∨ 7 < k → t.1 k = st.1 k) ∧ (∀ j, j ≠ 0 → j ≠ 5 → t.1 0 j = st.1 0 j) ∧ (∀ s, s < 6 → t.1 1 s = st.1 c s ∧ t.1 2 s = st.1 c (6 + s) ∧ t.1 3 s = st.1 c (12 + s) ∧ t.1 4 s = st.1 c (18 + s)) ∧ (∀ p, p < 8 → t.1 6 p = st.1 c (24 + p) ∧ t.1 7 p = st.1 c (32 + p)) ∧ t.1 0 0 = st.1 c 40 ∧ t.1 0 5 = st.1 c 41
theorem zI_addl (a b : Nat) (x : Int32) (hx : x = zI (a : Int)) : x + zI (b : Int) = zI ((a + b : Nat) : Int) := by rw [hx, zI_add]; rfl
theorem upd_e (f : Nat → Int32) (k : Nat) (x : Int32) : upd f k x k = x := if_pos rfl
theorem upd_n {f : Nat → Int32} {k j : Nat} {x : Int32} (h : j ≠ k) : upd f k x j = f j := if_neg h
theorem xs_A_e (t : XS) (k : Nat) (f : Nat → Int32) : (xs_A t k f).1 k = f := if_pos rfl
theorem xs_A_n {t : XS} {k j : Nat} {f : Nat → Int32} (h : j ≠ k) : (xs_A t k f).1 j = t.1 j := if_neg h
theorem e_keep (st : XS) : ∃ t, F_Mod_keep st = some t ∧ kp 17 st t := by
  unfold F_Mod_keep
  have hl1 : ∃ r, xo_lp (fun q : (Int32 × XS) => F_Mod_keep_b2 q.1 q.2) 1000000 ((0 : Int32), st) = some r ∧ (r.2 = st.2 ∧ (∀ k, k ≠ 17 → r.1 k = st.1 k) ∧ (∀ s, s < 6 → r.1 17 s = st.1 1 s ∧ r.1 17 (6 + s) = st.1 2 s ∧ r.1 17 (12 + s) = st.1 3 s ∧ r.1 17 (18 + s) = st.1 4 s)) := by
    refine lp_inv (fun (i : Nat) (x : Int32 × XS) => x.1 = zI (i : Int) ∧ x.2.2 = st.2 ∧ (∀ k, k ≠ 17 → x.2.1 k = st.1 k) ∧ (∀ s, s < i → x.2.1 17 s = st.1 1 s ∧ x.2.1 17 (6 + s) = st.1 2 s ∧ x.2.1 17 (12 + s) = st.1 3 s ∧ x.2.1 17 (18 + s) = st.1 4 s)) _ 6 1000000 _ (by omega) ⟨rfl, rfl, fun _ _ => rfl, fun s hs => absurd hs (Nat.not_lt_zero s)⟩ ?_ ?_
    · rintro i ⟨x, t⟩ hi ⟨e1, e2, e3, e4⟩
      dsimp only at e1 e2 e3 e4 ⊢
      subst e1
      unfold F_Mod_keep_b2
      rw [show (6 : Int32) = zI ((6 : Nat) : Int) from rfl, if_neg (zI_ge1 (by omega) hi)]
      have a6 : zI ((6 : Nat) : Int) + zI (i : Int) = zI ((6 + i : Nat) : Int) := zI_addl 6 i _ rfl
      have a12 : (12 : Int32) + zI (i : Int) = zI ((12 + i : Nat) : Int) := zI_addl 12 i _ rfl
      have a18 : (18 : Int32) + zI (i : Int) = zI ((18 + i : Nat) : Int) := zI_addl 18 i _ rfl
      rw [a6, a12, a18, xo_rd_z (by omega) (by decide), Option.bind_some, xo_ck_z (show i < 46 by omega) (by decide), Option.bind_some, xo_nm_b, xo_rd_z (by omega) (by decide), Option.bind_some, xo_ck_z (show 6 + i < 46 by omega) (by decide), Option.bind_some, xo_nm_b, xo_rd_z (by omega) (by decide), Option.bind_some, xo_ck_z (show 12 + i < 46 by omega) (by decide), Option.bind_some, xo_nm_b, xo_rd_z (by omega) (by decide), Option.bind_some, xo_ck_z (show 18 + i < 46 by omega) (by decide), Option.bind_some, xo_nm_b, xo_nm_b, zI_suc]
      rw [zI_cl (show i < 2147483648 by omega), zI_cl (show 6 + i < 2147483648 by omega), zI_cl (show 12 + i < 2147483648 by omega), zI_cl (show 18 + i < 2147483648 by omega)]
      refine ⟨_, rfl, rfl, e2, fun k hk => ?_, fun s hs => ?_⟩
      · rw [xs_A_n hk, xs_A_n hk, xs_A_n hk, xs_A_n hk]; exact e3 k hk
      · simp only [xs_A_e, xs_A_n (show 2 ≠ 17 by decide), xs_A_n (show 3 ≠ 17 by decide), xs_A_n (show 4 ≠ 17 by decide), e3 1 (by decide), e3 2 (by decide), e3 3 (by decide), e3 4 (by decide)]
        by_cases es : s = i
        · subst es
          refine ⟨?_, ?_, ?_, ?_⟩
          · rw [upd_n (by omega), upd_n (by omega), upd_n (by omega), upd_e]
          · rw [upd_n (by omega), upd_n (by omega), upd_e]
          · rw [upd_n (by omega), upd_e]
          · rw [upd_e]
        · obtain ⟨g1, g2, g3, g4⟩ := e4 s (by omega)
          refine ⟨?_, ?_, ?_, ?_⟩
          · rw [upd_n (by omega), upd_n (by omega), upd_n (by omega), upd_n (by omega), g1]
          · rw [upd_n (by omega), upd_n (by omega), upd_n (by omega), upd_n (by omega), g2]
          · rw [upd_n (by omega), upd_n (by omega), upd_n (by omega), upd_n (by omega), g3]
          · rw [upd_n (by omega), upd_n (by omega), upd_n (by omega), upd_n (by omega), g4]
    · rintro ⟨x, t⟩ ⟨e1, e2, e3, e4⟩
      dsimp only at e1 e2 e3 e4 ⊢
      subst e1
      unfold F_Mod_keep_b2
      rw [if_pos (show (6 : Int32) ≤ zI ((6 : Nat) : Int) by decide)]
      exact ⟨_, rfl, e2, e3, e4⟩
  obtain ⟨t1, h1, b1, b2, b3⟩ := hl1
  have hl2 : ∃ r, xo_lp (fun q : (Int32 × XS) => F_Mod_keep_b61 q.1 q.2) 1000000 ((0 : Int32), t1) = some r ∧ (r.2 = st.2 ∧ (∀ k, k ≠ 17 → r.1 k = st.1 k) ∧ (∀ s, s < 24 → r.1 17 s = t1.1 17 s) ∧ (∀ p, p < 8 → r.1 17 (24 + p) = st.1 6 p ∧ r.1 17 (32 + p) = st.1 7 p)) := by
    refine lp_inv (fun (i : Nat) (x : Int32 × XS) => x.1 = zI (i : Int) ∧ x.2.2 = st.2 ∧ (∀ k, k ≠ 17 → x.2.1 k = st.1 k) ∧ (∀ s, s < 24 → x.2.1 17 s = t1.1 17 s) ∧ (∀ p, p < i → x.2.1 17 (24 + p) = st.1 6 p ∧ x.2.1 17 (32 + p) = st.1 7 p)) _ 8 1000000 _ (by omega) ⟨rfl, b1, b2, fun _ _ => rfl, fun s hs => absurd hs (Nat.not_lt_zero s)⟩ ?_ ?_
    · rintro i ⟨x, t⟩ hi ⟨e1, e2, e3, e5, e4⟩
      dsimp only at e1 e2 e3 e4 e5 ⊢
      subst e1
      unfold F_Mod_keep_b61
      rw [show (8 : Int32) = zI ((8 : Nat) : Int) from rfl, if_neg (zI_ge1 (by omega) hi)]
      have a24 : (24 : Int32) + zI (i : Int) = zI ((24 + i : Nat) : Int) := zI_addl 24 i _ rfl
      have a32 : (32 : Int32) + zI (i : Int) = zI ((32 + i : Nat) : Int) := zI_addl 32 i _ rfl
      rw [a24, a32, xo_rd_z (by omega) (by decide), Option.bind_some, xo_ck_z (show 24 + i < 46 by omega) (by decide), Option.bind_some, xo_nm_b, xo_rd_z (by omega) (by decide), Option.bind_some, xo_ck_z (show 32 + i < 46 by omega) (by decide), Option.bind_some, xo_nm_b, xo_nm_b, zI_suc]
      rw [zI_cl (show 24 + i < 2147483648 by omega), zI_cl (show 32 + i < 2147483648 by omega)]
      refine ⟨_, rfl, rfl, e2, fun k hk => ?_, fun s hs => ?_, fun p hp => ?_⟩
      · rw [xs_A_n hk, xs_A_n hk]; exact e3 k hk
      · simp only [xs_A_e]
        rw [upd_n (by omega), upd_n (by omega)]; exact e5 s hs
      · simp only [xs_A_e, xs_A_n (show 7 ≠ 17 by decide), e3 6 (by decide), e3 7 (by decide)]
        by_cases es : p = i
        · subst es
          refine ⟨?_, ?_⟩
          · rw [upd_n (by omega), upd_e]
          · rw [upd_e]
        · obtain ⟨g1, g2⟩ := e4 p (by omega)
          refine ⟨?_, ?_⟩
          · rw [upd_n (by omega), upd_n (by omega), g1]
          · rw [upd_n (by omega), upd_n (by omega), g2]
    · rintro ⟨x, t⟩ ⟨e1, e2, e3, e5, e4⟩
      dsimp only at e1 e2 e3 e4 e5 ⊢
      subst e1
      unfold F_Mod_keep_b61
      rw [if_pos (show (8 : Int32) ≤ zI ((8 : Nat) : Int) by decide)]
      exact ⟨_, rfl, e2, e3, e5, e4⟩
  obtain ⟨t2, h2, d1, d2, d3, d4⟩ := hl2
  rw [h1, Option.bind_some, h2, Option.bind_some]
  have e40 : xo_ck 46 (40 : Int32) = some () := rfl
  have e41 : xo_ck 46 (41 : Int32) = some () := rfl
  have f40 : (40 : Int32).toNatClampNeg = 40 := rfl
  have f41 : (41 : Int32).toNatClampNeg = 41 := rfl
  rw [e40, Option.bind_some, xo_nm_b, e41, Option.bind_some, xo_nm_b, f40, f41]
  refine ⟨_, rfl, d1, fun k hk => ?_, fun s hs => ?_, fun p hp => ?_, ?_, ?_⟩
  · rw [xs_A_n hk, xs_A_n hk]; exact d2 k hk
  · simp only [xs_A_e]
    obtain ⟨g1, g2, g3, g4⟩ := b3 s hs
    refine ⟨?_, ?_, ?_, ?_⟩
    · rw [upd_n (by omega), upd_n (by omega), d3 _ (by omega), g1]
    · rw [upd_n (by omega), upd_n (by omega), d3 _ (by omega), g2]
    · rw [upd_n (by omega), upd_n (by omega), d3 _ (by omega), g3]
    · rw [upd_n (by omega), upd_n (by omega), d3 _ (by omega), g4]
  · simp only [xs_A_e]
    obtain ⟨g1, g2⟩ := d4 p hp
    refine ⟨?_, ?_⟩
    · rw [upd_n (by omega), upd_n (by omega), g1]
    · rw [upd_n (by omega), upd_n (by omega), g2]
  · simp only [xs_A_e]
    rw [upd_n (by omega), upd_e, d2 0 (by decide)]
  · simp only [xs_A_e]
    rw [upd_e, xs_A_n (by decide), d2 0 (by decide)]
theorem e_keep_v1 (st : XS) : ∃ t, F_Mod_keep_v1 st = some t ∧ kp 16 st t := by
  unfold F_Mod_keep_v1
  have hl1 : ∃ r, xo_lp (fun q : (Int32 × XS) => F_Mod_keep_v1_b2 q.1 q.2) 1000000 ((0 : Int32), st) = some r ∧ (r.2 = st.2 ∧ (∀ k, k ≠ 16 → r.1 k = st.1 k) ∧ (∀ s, s < 6 → r.1 16 s = st.1 1 s ∧ r.1 16 (6 + s) = st.1 2 s ∧ r.1 16 (12 + s) = st.1 3 s ∧ r.1 16 (18 + s) = st.1 4 s)) := by
    refine lp_inv (fun (i : Nat) (x : Int32 × XS) => x.1 = zI (i : Int) ∧ x.2.2 = st.2 ∧ (∀ k, k ≠ 16 → x.2.1 k = st.1 k) ∧ (∀ s, s < i → x.2.1 16 s = st.1 1 s ∧ x.2.1 16 (6 + s) = st.1 2 s ∧ x.2.1 16 (12 + s) = st.1 3 s ∧ x.2.1 16 (18 + s) = st.1 4 s)) _ 6 1000000 _ (by omega) ⟨rfl, rfl, fun _ _ => rfl, fun s hs => absurd hs (Nat.not_lt_zero s)⟩ ?_ ?_
    · rintro i ⟨x, t⟩ hi ⟨e1, e2, e3, e4⟩
      dsimp only at e1 e2 e3 e4 ⊢
      subst e1
      unfold F_Mod_keep_v1_b2
      rw [show (6 : Int32) = zI ((6 : Nat) : Int) from rfl, if_neg (zI_ge1 (by omega) hi)]
      have a6 : zI ((6 : Nat) : Int) + zI (i : Int) = zI ((6 + i : Nat) : Int) := zI_addl 6 i _ rfl
      have a12 : (12 : Int32) + zI (i : Int) = zI ((12 + i : Nat) : Int) := zI_addl 12 i _ rfl
      have a18 : (18 : Int32) + zI (i : Int) = zI ((18 + i : Nat) : Int) := zI_addl 18 i _ rfl
      rw [a6, a12, a18, xo_rd_z (by omega) (by decide), Option.bind_some, xo_ck_z (show i < 46 by omega) (by decide), Option.bind_some, xo_nm_b, xo_rd_z (by omega) (by decide), Option.bind_some, xo_ck_z (show 6 + i < 46 by omega) (by decide), Option.bind_some, xo_nm_b, xo_rd_z (by omega) (by decide), Option.bind_some, xo_ck_z (show 12 + i < 46 by omega) (by decide), Option.bind_some, xo_nm_b, xo_rd_z (by omega) (by decide), Option.bind_some, xo_ck_z (show 18 + i < 46 by omega) (by decide), Option.bind_some, xo_nm_b, xo_nm_b, zI_suc]
      rw [zI_cl (show i < 2147483648 by omega), zI_cl (show 6 + i < 2147483648 by omega), zI_cl (show 12 + i < 2147483648 by omega), zI_cl (show 18 + i < 2147483648 by omega)]
      refine ⟨_, rfl, rfl, e2, fun k hk => ?_, fun s hs => ?_⟩
      · rw [xs_A_n hk, xs_A_n hk, xs_A_n hk, xs_A_n hk]; exact e3 k hk
      · simp only [xs_A_e, xs_A_n (show 2 ≠ 16 by decide), xs_A_n (show 3 ≠ 16 by decide), xs_A_n (show 4 ≠ 16 by decide), e3 1 (by decide), e3 2 (by decide), e3 3 (by decide), e3 4 (by decide)]
        by_cases es : s = i
        · subst es
          refine ⟨?_, ?_, ?_, ?_⟩
          · rw [upd_n (by omega), upd_n (by omega), upd_n (by omega), upd_e]
          · rw [upd_n (by omega), upd_n (by omega), upd_e]
          · rw [upd_n (by omega), upd_e]
          · rw [upd_e]
        · obtain ⟨g1, g2, g3, g4⟩ := e4 s (by omega)
          refine ⟨?_, ?_, ?_, ?_⟩
          · rw [upd_n (by omega), upd_n (by omega), upd_n (by omega), upd_n (by omega), g1]
          · rw [upd_n (by omega), upd_n (by omega), upd_n (by omega), upd_n (by omega), g2]
          · rw [upd_n (by omega), upd_n (by omega), upd_n (by omega), upd_n (by omega), g3]
          · rw [upd_n (by omega), upd_n (by omega), upd_n (by omega), upd_n (by omega), g4]
    · rintro ⟨x, t⟩ ⟨e1, e2, e3, e4⟩
      dsimp only at e1 e2 e3 e4 ⊢
      subst e1
      unfold F_Mod_keep_v1_b2
      rw [if_pos (show (6 : Int32) ≤ zI ((6 : Nat) : Int) by decide)]
      exact ⟨_, rfl, e2, e3, e4⟩
  obtain ⟨t1, h1, b1, b2, b3⟩ := hl1
  have hl2 : ∃ r, xo_lp (fun q : (Int32 × XS) => F_Mod_keep_v1_b61 q.1 q.2) 1000000 ((0 : Int32), t1) = some r ∧ (r.2 = st.2 ∧ (∀ k, k ≠ 16 → r.1 k = st.1 k) ∧ (∀ s, s < 24 → r.1 16 s = t1.1 16 s) ∧ (∀ p, p < 8 → r.1 16 (24 + p) = st.1 6 p ∧ r.1 16 (32 + p) = st.1 7 p)) := by
    refine lp_inv (fun (i : Nat) (x : Int32 × XS) => x.1 = zI (i : Int) ∧ x.2.2 = st.2 ∧ (∀ k, k ≠ 16 → x.2.1 k = st.1 k) ∧ (∀ s, s < 24 → x.2.1 16 s = t1.1 16 s) ∧ (∀ p, p < i → x.2.1 16 (24 + p) = st.1 6 p ∧ x.2.1 16 (32 + p) = st.1 7 p)) _ 8 1000000 _ (by omega) ⟨rfl, b1, b2, fun _ _ => rfl, fun s hs => absurd hs (Nat.not_lt_zero s)⟩ ?_ ?_
    · rintro i ⟨x, t⟩ hi ⟨e1, e2, e3, e5, e4⟩
      dsimp only at e1 e2 e3 e4 e5 ⊢
      subst e1
      unfold F_Mod_keep_v1_b61
      rw [show (8 : Int32) = zI ((8 : Nat) : Int) from rfl, if_neg (zI_ge1 (by omega) hi)]
      have a24 : (24 : Int32) + zI (i : Int) = zI ((24 + i : Nat) : Int) := zI_addl 24 i _ rfl
      have a32 : (32 : Int32) + zI (i : Int) = zI ((32 + i : Nat) : Int) := zI_addl 32 i _ rfl
      rw [a24, a32, xo_rd_z (by omega) (by decide), Option.bind_some, xo_ck_z (show 24 + i < 46 by omega) (by decide), Option.bind_some, xo_nm_b, xo_rd_z (by omega) (by decide), Option.bind_some, xo_ck_z (show 32 + i < 46 by omega) (by decide), Option.bind_some, xo_nm_b, xo_nm_b, zI_suc]
      rw [zI_cl (show 24 + i < 2147483648 by omega), zI_cl (show 32 + i < 2147483648 by omega)]
      refine ⟨_, rfl, rfl, e2, fun k hk => ?_, fun s hs => ?_, fun p hp => ?_⟩
      · rw [xs_A_n hk, xs_A_n hk]; exact e3 k hk
      · simp only [xs_A_e]
        rw [upd_n (by omega), upd_n (by omega)]; exact e5 s hs
      · simp only [xs_A_e, xs_A_n (show 7 ≠ 16 by decide), e3 6 (by decide), e3 7 (by decide)]
        by_cases es : p = i
        · subst es
          refine ⟨?_, ?_⟩
          · rw [upd_n (by omega), upd_e]
          · rw [upd_e]
        · obtain ⟨g1, g2⟩ := e4 p (by omega)
          refine ⟨?_, ?_⟩
          · rw [upd_n (by omega), upd_n (by omega), g1]
          · rw [upd_n (by omega), upd_n (by omega), g2]
    · rintro ⟨x, t⟩ ⟨e1, e2, e3, e5, e4⟩
      dsimp only at e1 e2 e3 e4 e5 ⊢
      subst e1
      unfold F_Mod_keep_v1_b61
      rw [if_pos (show (8 : Int32) ≤ zI ((8 : Nat) : Int) by decide)]
      exact ⟨_, rfl, e2, e3, e5, e4⟩
  obtain ⟨t2, h2, d1, d2, d3, d4⟩ := hl2
  rw [h1, Option.bind_some, h2, Option.bind_some]
  have e40 : xo_ck 46 (40 : Int32) = some () := rfl
  have e41 : xo_ck 46 (41 : Int32) = some () := rfl
  have f40 : (40 : Int32).toNatClampNeg = 40 := rfl
  have f41 : (41 : Int32).toNatClampNeg = 41 := rfl
  rw [e40, Option.bind_some, xo_nm_b, e41, Option.bind_some, xo_nm_b, f40, f41]
  refine ⟨_, rfl, d1, fun k hk => ?_, fun s hs => ?_, fun p hp => ?_, ?_, ?_⟩
  · rw [xs_A_n hk, xs_A_n hk]; exact d2 k hk
  · simp only [xs_A_e]
    obtain ⟨g1, g2, g3, g4⟩ := b3 s hs
    refine ⟨?_, ?_, ?_, ?_⟩
    · rw [upd_n (by omega), upd_n (by omega), d3 _ (by omega), g1]
    · rw [upd_n (by omega), upd_n (by omega), d3 _ (by omega), g2]
    · rw [upd_n (by omega), upd_n (by omega), d3 _ (by omega), g3]
    · rw [upd_n (by omega), upd_n (by omega), d3 _ (by omega), g4]
  · simp only [xs_A_e]
    obtain ⟨g1, g2⟩ := d4 p hp
    refine ⟨?_, ?_⟩
    · rw [upd_n (by omega), upd_n (by omega), g1]
    · rw [upd_n (by omega), upd_n (by omega), g2]
  · simp only [xs_A_e]
    rw [upd_n (by omega), upd_e, d2 0 (by decide)]
  · simp only [xs_A_e]
    rw [upd_e, xs_A_n (by decide), d2 0 (by decide)]
theorem e_again (st : XS) : ∃ t, F_Mod_again st = some t ∧ ag 17 st t := by
  unfold F_Mod_again
  have hl1 : ∃ r, xo_lp (fun q : (Int32 × XS) => F_Mod_again_b2 q.1 q.2) 1000000 ((0 : Int32), st) = some r ∧ (r.2 = st.2 ∧ (∀ k, k = 0 ∨ 4 < k → r.1 k = st.1 k) ∧ (∀ s, s < 6 → r.1 1 s = st.1 17 s ∧ r.1 2 s = st.1 17 (6 + s) ∧ r.1 3 s = st.1 17 (12 + s) ∧ r.1 4 s = st.1 17 (18 + s))) := by
    refine lp_inv (fun (i : Nat) (x : Int32 × XS) => x.1 = zI (i : Int) ∧ x.2.2 = st.2 ∧ (∀ k, k = 0 ∨ 4 < k → x.2.1 k = st.1 k) ∧ (∀ s, s < i → x.2.1 1 s = st.1 17 s ∧ x.2.1 2 s = st.1 17 (6 + s) ∧ x.2.1 3 s = st.1 17 (12 + s) ∧ x.2.1 4 s = st.1 17 (18 + s))) _ 6 1000000 _ (by omega) ⟨rfl, rfl, fun _ _ => rfl, fun s hs => absurd hs (Nat.not_lt_zero s)⟩ ?_ ?_
    · rintro i ⟨x, t⟩ hi ⟨e1, e2, e3, e4⟩
      dsimp only at e1 e2 e3 e4 ⊢
      subst e1
      unfold F_Mod_again_b2
      rw [show (6 : Int32) = zI ((6 : Nat) : Int) from rfl, if_neg (zI_ge1 (by omega) hi)]
      have a6 : zI ((6 : Nat) : Int) + zI (i : Int) = zI ((6 + i : Nat) : Int) := zI_addl 6 i _ rfl
      have a12 : (12 : Int32) + zI (i : Int) = zI ((12 + i : Nat) : Int) := zI_addl 12 i _ rfl
      have a18 : (18 : Int32) + zI (i : Int) = zI ((18 + i : Nat) : Int) := zI_addl 18 i _ rfl
      rw [a6, a12, a18, xo_rd_z (show i < 46 by omega) (by decide), Option.bind_some, xo_ck_z (show i < 7 by omega) (by decide), Option.bind_some, xo_nm_b, xo_rd_z (show 6 + i < 46 by omega) (by decide), Option.bind_some, Option.bind_some, xo_nm_b, xo_rd_z (show 12 + i < 46 by omega) (by decide), Option.bind_some, Option.bind_some, xo_nm_b, xo_rd_z (show 18 + i < 46 by omega) (by decide), Option.bind_some, Option.bind_some, xo_nm_b, xo_nm_b, zI_suc]
      rw [zI_cl (show i < 2147483648 by omega)]
      refine ⟨_, rfl, rfl, e2, fun k hk => ?_, fun s hs => ?_⟩
      · rw [xs_A_n (by omega), xs_A_n (by omega), xs_A_n (by omega), xs_A_n (by omega)]; exact e3 k hk
      · simp only [xs_A_e, xs_A_n (show 1 ≠ 2 by decide), xs_A_n (show 1 ≠ 3 by decide), xs_A_n (show 1 ≠ 4 by decide), xs_A_n (show 2 ≠ 1 by decide), xs_A_n (show 2 ≠ 3 by decide), xs_A_n (show 2 ≠ 4 by decide), xs_A_n (show 3 ≠ 1 by decide), xs_A_n (show 3 ≠ 2 by decide), xs_A_n (show 3 ≠ 4 by decide), xs_A_n (show 4 ≠ 1 by decide), xs_A_n (show 4 ≠ 2 by decide), xs_A_n (show 4 ≠ 3 by decide), xs_A_n (show 17 ≠ 1 by decide), xs_A_n (show 17 ≠ 2 by decide), xs_A_n (show 17 ≠ 3 by decide), xs_A_n (show 17 ≠ 4 by decide), e3 17 (by decide)]
        by_cases es : s = i
        · subst es
          rw [upd_e, upd_e, upd_e, upd_e]
          exact ⟨rfl, rfl, rfl, rfl⟩
        · rw [upd_n es, upd_n es, upd_n es, upd_n es]
          exact e4 s (by omega)
    · rintro ⟨x, t⟩ ⟨e1, e2, e3, e4⟩
      dsimp only at e1 e2 e3 e4 ⊢
      subst e1
      unfold F_Mod_again_b2
      rw [if_pos (show (6 : Int32) ≤ zI ((6 : Nat) : Int) by decide)]
      exact ⟨_, rfl, e2, e3, e4⟩
  obtain ⟨t1, h1, b1, b2, b3⟩ := hl1
  have hl2 : ∃ r, xo_lp (fun q : (Int32 × XS) => F_Mod_again_b61 q.1 q.2) 1000000 ((0 : Int32), t1) = some r ∧ (r.2 = st.2 ∧ (∀ k, k = 0 ∨ k = 5 ∨ 7 < k → r.1 k = st.1 k) ∧ (∀ k, 1 ≤ k → k ≤ 4 → r.1 k = t1.1 k) ∧ (∀ p, p < 8 → r.1 6 p = st.1 17 (24 + p) ∧ r.1 7 p = st.1 17 (32 + p))) := by
    refine lp_inv (fun (i : Nat) (x : Int32 × XS) => x.1 = zI (i : Int) ∧ x.2.2 = st.2 ∧ (∀ k, k = 0 ∨ k = 5 ∨ 7 < k → x.2.1 k = st.1 k) ∧ (∀ k, 1 ≤ k → k ≤ 4 → x.2.1 k = t1.1 k) ∧ (∀ p, p < i → x.2.1 6 p = st.1 17 (24 + p) ∧ x.2.1 7 p = st.1 17 (32 + p))) _ 8 1000000 _ (by omega) ⟨rfl, b1, fun k hk => b2 k (by omega), fun _ _ _ => rfl, fun s hs => absurd hs (Nat.not_lt_zero s)⟩ ?_ ?_
    · rintro i ⟨x, t⟩ hi ⟨e1, e2, e3, e5, e4⟩
      dsimp only at e1 e2 e3 e4 e5 ⊢
      subst e1
      unfold F_Mod_again_b61
      rw [show (8 : Int32) = zI ((8 : Nat) : Int) from rfl, if_neg (zI_ge1 (by omega) hi)]
      have a24 : (24 : Int32) + zI (i : Int) = zI ((24 + i : Nat) : Int) := zI_addl 24 i _ rfl
      have a32 : (32 : Int32) + zI (i : Int) = zI ((32 + i : Nat) : Int) := zI_addl 32 i _ rfl
      rw [a24, a32, xo_rd_z (show 24 + i < 46 by omega) (by decide), Option.bind_some, xo_ck_z (show i < 8 by omega) (by decide), Option.bind_some, xo_nm_b, xo_rd_z (show 32 + i < 46 by omega) (by decide), Option.bind_some, Option.bind_some, xo_nm_b, xo_nm_b, zI_suc]
      rw [zI_cl (show i < 2147483648 by omega)]
      refine ⟨_, rfl, rfl, e2, fun k hk => ?_, fun k g1 g2 => ?_, fun p hp => ?_⟩
      · rw [xs_A_n (by omega), xs_A_n (by omega)]; exact e3 k hk
      · rw [xs_A_n (by omega), xs_A_n (by omega)]; exact e5 k g1 g2
      · simp only [xs_A_e, xs_A_n (show 6 ≠ 7 by decide), xs_A_n (show 7 ≠ 6 by decide), xs_A_n (show 17 ≠ 6 by decide), xs_A_n (show 17 ≠ 7 by decide), e3 17 (by decide)]
        by_cases es : p = i
        · subst es
          rw [upd_e, upd_e]
          exact ⟨rfl, rfl⟩
        · rw [upd_n es, upd_n es]
          exact e4 p (by omega)
    · rintro ⟨x, t⟩ ⟨e1, e2, e3, e5, e4⟩
      dsimp only at e1 e2 e3 e4 e5 ⊢
      subst e1
      unfold F_Mod_again_b61
      rw [if_pos (show (8 : Int32) ≤ zI ((8 : Nat) : Int) by decide)]
      exact ⟨_, rfl, e2, e3, e5, e4⟩
  obtain ⟨t2, h2, d1, d2, d3, d4⟩ := hl2
  rw [h1, Option.bind_some, h2, Option.bind_some]
  have e40 : ∀ f : Nat → Int32, xo_rd f 46 (40 : Int32) = some (f 40) := fun f => xo_rd_z (k := 40) (by decide) (by decide)
  have e41 : ∀ f : Nat → Int32, xo_rd f 46 (41 : Int32) = some (f 41) := fun f => xo_rd_z (k := 41) (by decide) (by decide)
  rw [e40, Option.bind_some, xo_nm_b, e41, Option.bind_some, xo_nm_b]
  have hi : ∀ k, k ≠ 0 → ∀ a b, (xs_I (xs_I t2 0 0 a) 0 5 b).1 k = t2.1 k := fun k hk a b => by simp [xs_I, hk]
  refine ⟨_, rfl, d1, fun k hk => ?_, fun j g1 g2 => ?_, fun s hs => ?_, fun p hp => ?_, ?_, ?_⟩
  · rw [hi k (by omega)]; exact d2 k (by omega)
  · simp only [xs_I, reduceIte]
    rw [upd_n g2, upd_n g1, d2 0 (by omega)]
  · rw [hi 1 (by omega), hi 2 (by omega), hi 3 (by omega), hi 4 (by omega), d3 1 (by omega) (by omega), d3 2 (by omega) (by omega), d3 3 (by omega) (by omega), d3 4 (by omega) (by omega)]
    exact b3 s hs
  · rw [hi 6 (by omega), hi 7 (by omega)]
    exact d4 p hp
  · simp only [xs_I, reduceIte]
    rw [upd_n (by omega), upd_e, d2 17 (by omega)]
  · simp only [xs_I, reduceIte]
    rw [upd_e, if_neg (by decide), d2 17 (by omega)]
theorem e_again_v1 (st : XS) : ∃ t, F_Mod_again_v1 st = some t ∧ ag 16 st t := by
  unfold F_Mod_again_v1
  have hl1 : ∃ r, xo_lp (fun q : (Int32 × XS) => F_Mod_again_v1_b2 q.1 q.2) 1000000 ((0 : Int32), st) = some r ∧ (r.2 = st.2 ∧ (∀ k, k = 0 ∨ 4 < k → r.1 k = st.1 k) ∧ (∀ s, s < 6 → r.1 1 s = st.1 16 s ∧ r.1 2 s = st.1 16 (6 + s) ∧ r.1 3 s = st.1 16 (12 + s) ∧ r.1 4 s = st.1 16 (18 + s))) := by
    refine lp_inv (fun (i : Nat) (x : Int32 × XS) => x.1 = zI (i : Int) ∧ x.2.2 = st.2 ∧ (∀ k, k = 0 ∨ 4 < k → x.2.1 k = st.1 k) ∧ (∀ s, s < i → x.2.1 1 s = st.1 16 s ∧ x.2.1 2 s = st.1 16 (6 + s) ∧ x.2.1 3 s = st.1 16 (12 + s) ∧ x.2.1 4 s = st.1 16 (18 + s))) _ 6 1000000 _ (by omega) ⟨rfl, rfl, fun _ _ => rfl, fun s hs => absurd hs (Nat.not_lt_zero s)⟩ ?_ ?_
    · rintro i ⟨x, t⟩ hi ⟨e1, e2, e3, e4⟩
      dsimp only at e1 e2 e3 e4 ⊢
      subst e1
      unfold F_Mod_again_v1_b2
      rw [show (6 : Int32) = zI ((6 : Nat) : Int) from rfl, if_neg (zI_ge1 (by omega) hi)]
      have a6 : zI ((6 : Nat) : Int) + zI (i : Int) = zI ((6 + i : Nat) : Int) := zI_addl 6 i _ rfl
      have a12 : (12 : Int32) + zI (i : Int) = zI ((12 + i : Nat) : Int) := zI_addl 12 i _ rfl
      have a18 : (18 : Int32) + zI (i : Int) = zI ((18 + i : Nat) : Int) := zI_addl 18 i _ rfl
      rw [a6, a12, a18, xo_rd_z (show i < 46 by omega) (by decide), Option.bind_some, xo_ck_z (show i < 7 by omega) (by decide), Option.bind_some, xo_nm_b, xo_rd_z (show 6 + i < 46 by omega) (by decide), Option.bind_some, Option.bind_some, xo_nm_b, xo_rd_z (show 12 + i < 46 by omega) (by decide), Option.bind_some, Option.bind_some, xo_nm_b, xo_rd_z (show 18 + i < 46 by omega) (by decide), Option.bind_some, Option.bind_some, xo_nm_b, xo_nm_b, zI_suc]
      rw [zI_cl (show i < 2147483648 by omega)]
      refine ⟨_, rfl, rfl, e2, fun k hk => ?_, fun s hs => ?_⟩
      · rw [xs_A_n (by omega), xs_A_n (by omega), xs_A_n (by omega), xs_A_n (by omega)]; exact e3 k hk
      · simp only [xs_A_e, xs_A_n (show 1 ≠ 2 by decide), xs_A_n (show 1 ≠ 3 by decide), xs_A_n (show 1 ≠ 4 by decide), xs_A_n (show 2 ≠ 1 by decide), xs_A_n (show 2 ≠ 3 by decide), xs_A_n (show 2 ≠ 4 by decide), xs_A_n (show 3 ≠ 1 by decide), xs_A_n (show 3 ≠ 2 by decide), xs_A_n (show 3 ≠ 4 by decide), xs_A_n (show 4 ≠ 1 by decide), xs_A_n (show 4 ≠ 2 by decide), xs_A_n (show 4 ≠ 3 by decide), xs_A_n (show 16 ≠ 1 by decide), xs_A_n (show 16 ≠ 2 by decide), xs_A_n (show 16 ≠ 3 by decide), xs_A_n (show 16 ≠ 4 by decide), e3 16 (by decide)]
        by_cases es : s = i
        · subst es
          rw [upd_e, upd_e, upd_e, upd_e]
          exact ⟨rfl, rfl, rfl, rfl⟩
        · rw [upd_n es, upd_n es, upd_n es, upd_n es]
          exact e4 s (by omega)
    · rintro ⟨x, t⟩ ⟨e1, e2, e3, e4⟩
      dsimp only at e1 e2 e3 e4 ⊢
      subst e1
      unfold F_Mod_again_v1_b2
      rw [if_pos (show (6 : Int32) ≤ zI ((6 : Nat) : Int) by decide)]
      exact ⟨_, rfl, e2, e3, e4⟩
  obtain ⟨t1, h1, b1, b2, b3⟩ := hl1
  have hl2 : ∃ r, xo_lp (fun q : (Int32 × XS) => F_Mod_again_v1_b61 q.1 q.2) 1000000 ((0 : Int32), t1) = some r ∧ (r.2 = st.2 ∧ (∀ k, k = 0 ∨ k = 5 ∨ 7 < k → r.1 k = st.1 k) ∧ (∀ k, 1 ≤ k → k ≤ 4 → r.1 k = t1.1 k) ∧ (∀ p, p < 8 → r.1 6 p = st.1 16 (24 + p) ∧ r.1 7 p = st.1 16 (32 + p))) := by
    refine lp_inv (fun (i : Nat) (x : Int32 × XS) => x.1 = zI (i : Int) ∧ x.2.2 = st.2 ∧ (∀ k, k = 0 ∨ k = 5 ∨ 7 < k → x.2.1 k = st.1 k) ∧ (∀ k, 1 ≤ k → k ≤ 4 → x.2.1 k = t1.1 k) ∧ (∀ p, p < i → x.2.1 6 p = st.1 16 (24 + p) ∧ x.2.1 7 p = st.1 16 (32 + p))) _ 8 1000000 _ (by omega) ⟨rfl, b1, fun k hk => b2 k (by omega), fun _ _ _ => rfl, fun s hs => absurd hs (Nat.not_lt_zero s)⟩ ?_ ?_
    · rintro i ⟨x, t⟩ hi ⟨e1, e2, e3, e5, e4⟩
      dsimp only at e1 e2 e3 e4 e5 ⊢
      subst e1
      unfold F_Mod_again_v1_b61
      rw [show (8 : Int32) = zI ((8 : Nat) : Int) from rfl, if_neg (zI_ge1 (by omega) hi)]
      have a24 : (24 : Int32) + zI (i : Int) = zI ((24 + i : Nat) : Int) := zI_addl 24 i _ rfl
      have a32 : (32 : Int32) + zI (i : Int) = zI ((32 + i : Nat) : Int) := zI_addl 32 i _ rfl
      rw [a24, a32, xo_rd_z (show 24 + i < 46 by omega) (by decide), Option.bind_some, xo_ck_z (show i < 8 by omega) (by decide), Option.bind_some, xo_nm_b, xo_rd_z (show 32 + i < 46 by omega) (by decide), Option.bind_some, Option.bind_some, xo_nm_b, xo_nm_b, zI_suc]
      rw [zI_cl (show i < 2147483648 by omega)]
      refine ⟨_, rfl, rfl, e2, fun k hk => ?_, fun k g1 g2 => ?_, fun p hp => ?_⟩
      · rw [xs_A_n (by omega), xs_A_n (by omega)]; exact e3 k hk
      · rw [xs_A_n (by omega), xs_A_n (by omega)]; exact e5 k g1 g2
      · simp only [xs_A_e, xs_A_n (show 6 ≠ 7 by decide), xs_A_n (show 7 ≠ 6 by decide), xs_A_n (show 16 ≠ 6 by decide), xs_A_n (show 16 ≠ 7 by decide), e3 16 (by decide)]
        by_cases es : p = i
        · subst es
          rw [upd_e, upd_e]
          exact ⟨rfl, rfl⟩
        · rw [upd_n es, upd_n es]
          exact e4 p (by omega)
    · rintro ⟨x, t⟩ ⟨e1, e2, e3, e5, e4⟩
      dsimp only at e1 e2 e3 e4 e5 ⊢
      subst e1
      unfold F_Mod_again_v1_b61
      rw [if_pos (show (8 : Int32) ≤ zI ((8 : Nat) : Int) by decide)]
      exact ⟨_, rfl, e2, e3, e5, e4⟩
  obtain ⟨t2, h2, d1, d2, d3, d4⟩ := hl2
  rw [h1, Option.bind_some, h2, Option.bind_some]
  have e40 : ∀ f : Nat → Int32, xo_rd f 46 (40 : Int32) = some (f 40) := fun f => xo_rd_z (k := 40) (by decide) (by decide)
  have e41 : ∀ f : Nat → Int32, xo_rd f 46 (41 : Int32) = some (f 41) := fun f => xo_rd_z (k := 41) (by decide) (by decide)
  rw [e40, Option.bind_some, xo_nm_b, e41, Option.bind_some, xo_nm_b]
  have hi : ∀ k, k ≠ 0 → ∀ a b, (xs_I (xs_I t2 0 0 a) 0 5 b).1 k = t2.1 k := fun k hk a b => by simp [xs_I, hk]
  refine ⟨_, rfl, d1, fun k hk => ?_, fun j g1 g2 => ?_, fun s hs => ?_, fun p hp => ?_, ?_, ?_⟩
  · rw [hi k (by omega)]; exact d2 k (by omega)
  · simp only [xs_I, reduceIte]
    rw [upd_n g2, upd_n g1, d2 0 (by omega)]
  · rw [hi 1 (by omega), hi 2 (by omega), hi 3 (by omega), hi 4 (by omega), d3 1 (by omega) (by omega), d3 2 (by omega) (by omega), d3 3 (by omega) (by omega), d3 4 (by omega) (by omega)]
    exact b3 s hs
  · rw [hi 6 (by omega), hi 7 (by omega)]
    exact d4 p hp
  · simp only [xs_I, reduceIte]
    rw [upd_n (by omega), upd_e, d2 16 (by omega)]
  · simp only [xs_I, reduceIte]
    rw [upd_e, if_neg (by decide), d2 16 (by omega)]
