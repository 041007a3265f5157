/-! the image, and on from it -/
theorem cpy_lt {f g : Nat → Int32} {n s : Nat} (h : s < n) : va_cpy f g 0 0 n s = f s := by
  unfold va_cpy
  rw [if_pos ⟨Nat.zero_le s, by omega⟩]
  congr 1; omega
def cp (a b : Nat) (st t : XS) : Prop := t.2 = st.2 ∧ (∀ k, k < b ∨ b + 6 < k → t.1 k = st.1 k) ∧ t.1 b 4 = st.1 a 4 ∧ t.1 b 7 = st.1 a 7 ∧ (∀ s, s < 6 → t.1 (b + 1) s = st.1 (a + 1) s ∧ t.1 (b + 2) s = st.1 (a + 2) s ∧ t.1 (b + 3) s = st.1 (a + 3) s ∧ t.1 (b + 4) s = st.1 (a + 4) s) ∧ ∀ p, p < 8 → t.1 (b + 5) p = st.1 (a + 5) p ∧ t.1 (b + 6) p = st.1 (a + 6) p
theorem e_copy (st : XS) : ∃ t, F_Tow_copyFrom st = some t ∧ cp 1 8 st t := by
  unfold F_Tow_copyFrom
  simp only [xo_nm_b]
  refine ⟨_, rfl, rfl, fun k hk => ?_, ?_, ?_, fun s hs => ?_, fun p hp => ?_⟩
  · simp only [xs_A, xs_I]
    rw [if_neg (by omega), if_neg (by omega), if_neg (by omega), if_neg (by omega), if_neg (by omega), if_neg (by omega), if_neg (by omega), if_neg (by omega)]
  · simp [xs_A, xs_I, upd]
  · simp [xs_A, xs_I, upd]
  · simp [xs_A, xs_I, upd, cpy_lt hs]
  · simp [xs_A, xs_I, upd, cpy_lt hp]
theorem e_copy_v1 (st : XS) : ∃ t, F_Tow_copyFrom_v1 st = some t ∧ cp 8 1 st t := by
  unfold F_Tow_copyFrom_v1
  simp only [xo_nm_b]
  refine ⟨_, rfl, rfl, fun k hk => ?_, ?_, ?_, fun s hs => ?_, fun p hp => ?_⟩
  · simp only [xs_A, xs_I]
    rw [if_neg (by omega), if_neg (by omega), if_neg (by omega), if_neg (by omega), if_neg (by omega), if_neg (by omega), if_neg (by omega), if_neg (by omega)]
  · simp [xs_A, xs_I, upd]
  · simp [xs_A, xs_I, upd]
  · simp [xs_A, xs_I, upd, cpy_lt hs]
  · simp [xs_A, xs_I, upd, cpy_lt hp]
theorem e_copy_v2 (st : XS) : ∃ t, F_Tow_copyFrom_v2 st = some t ∧ cp 1 15 st t := by
  unfold F_Tow_copyFrom_v2
  simp only [xo_nm_b]
  refine ⟨_, rfl, rfl, fun k hk => ?_, ?_, ?_, fun s hs => ?_, fun p hp => ?_⟩
  · simp only [xs_A, xs_I]
    rw [if_neg (by omega), if_neg (by omega), if_neg (by omega), if_neg (by omega), if_neg (by omega), if_neg (by omega), if_neg (by omega), if_neg (by omega)]
  · simp [xs_A, xs_I, upd]
  · simp [xs_A, xs_I, upd]
  · simp [xs_A, xs_I, upd, cpy_lt hs]
  · simp [xs_A, xs_I, upd, cpy_lt hp]
theorem e_copy_v3 (st : XS) : ∃ t, F_Tow_copyFrom_v3 st = some t ∧ cp 15 1 st t := by
  unfold F_Tow_copyFrom_v3
  simp only [xo_nm_b]
  refine ⟨_, rfl, rfl, fun k hk => ?_, ?_, ?_, fun s hs => ?_, fun p hp => ?_⟩
  · simp only [xs_A, xs_I]
    rw [if_neg (by omega), if_neg (by omega), if_neg (by omega), if_neg (by omega), if_neg (by omega), if_neg (by omega), if_neg (by omega), if_neg (by omega)]
  · simp [xs_A, xs_I, upd]
  · simp [xs_A, xs_I, upd]
  · simp [xs_A, xs_I, upd, cpy_lt hs]
  · simp [xs_A, xs_I, upd, cpy_lt hp]
theorem s_image (sc sm : XS) (h : xz_RR sc sm) : ∃ (r : Int32) (sc2 sm2 : XS), F_All_image sc = some (r, sc2) ∧ F_Mod_image sm = some (r, sm2) ∧ xz_RR sc2 sm2 := by
  obtain ⟨⟨n, A, B, C, Kd, P, X, Y, h1⟩, h2, h3, h4, h5⟩ := h
  have hR := h1
  obtain ⟨hc, hok, hpl, hkd, hp, hn, hm, hpm⟩ := h1
  unfold F_All_image F_Mod_image
  obtain ⟨t1, g1, a1, a2, a3, a4, a5, a6⟩ := e_copy_v2 sc
  obtain ⟨t2, g2, b1, b2, b3, b4, b5, b6⟩ := e_keep_v1 (xs_I sm 0 15 (1 : Int32))
  rw [g1, Option.bind_some, xo_nm_b, xo_nm_b, g2, Option.bind_some]
  have h6 := hc.2.1
  have h8 := hp.2.1
  have hcI : ∀ k, k ≠ 0 → (xs_I t1 0 3 (1 : Int32)).1 k = t1.1 k := fun k hk => by simp [xs_I, hk]
  have hmI : ∀ k, k ≠ 0 → (xs_I sm 0 15 (1 : Int32)).1 k = sm.1 k := fun k hk => by simp [xs_I, hk]
  have hc0 : ∀ j, j ≠ 3 → (xs_I t1 0 3 (1 : Int32)).1 0 j = t1.1 0 j := fun j hj => by simp [xs_I, upd, hj]
  have hm0 : ∀ j, j ≠ 15 → (xs_I sm 0 15 (1 : Int32)).1 0 j = sm.1 0 j := fun j hj => by simp [xs_I, upd, hj]
  have hc1 : (xs_I t1 0 3 (1 : Int32)).1 0 3 = 1 := by simp [xs_I, upd]
  have hm1 : (xs_I sm 0 15 (1 : Int32)).1 0 15 = 1 := by simp [xs_I, upd]
  have hl : (xs_I t1 0 3 (1 : Int32)).2 = t1.2 := rfl
  generalize xs_I t1 0 3 (1 : Int32) = u1 at *
  generalize xs_I sm 0 15 (1 : Int32) = u2 at *
  refine ⟨zI (n : Int), u1, t2, ?_, ?_, ?_⟩
  · rw [hcI 1 (by decide), a2 1 (by omega), hc.1]
  · rw [b2 0 (by decide), hm0 0 (by decide), hn]
  · refine ⟨⟨n, A, B, C, Kd, P, X, Y, xR_of hR (fun k _ _ => by rw [hcI k (by omega), a2 k (by omega)]) (fun k _ _ => by rw [hcI k (by omega), a2 k (by omega)]) (hl.trans a1) (by rw [b2 0 (by decide), hm0 0 (by decide)]) (by rw [b2 0 (by decide), hm0 5 (by decide)]) (fun k hk => by rw [b2 k (by omega), hmI k (by omega)]) (fun s _ => by rw [b2 2 (by omega), b2 3 (by omega), b2 4 (by omega), hmI 2 (by omega), hmI 3 (by omega), hmI 4 (by omega)]; exact ⟨rfl, rfl, rfl⟩)⟩, xT_of h2 (by rw [hcI 28 (by omega), a2 28 (by omega)]) (by rw [hcI 29 (by omega), a2 29 (by omega)]) (by rw [b2 0 (by omega), hm0 8 (by omega)]) (by rw [b2 9 (by omega), hmI 9 (by omega)]), xW_of h3 (by rw [hc0 7 (by omega), a2 0 (by omega)]) (by rw [hcI 31 (by omega), a2 31 (by omega)]) (by rw [b2 0 (by omega), hm0 12 (by omega)]) (by rw [b2 13 (by omega), hmI 13 (by omega)]), xF_of h4 (by rw [hcI 32 (by omega), a2 32 (by omega)]) (by rw [b2 14 (by omega), hmI 14 (by omega)]), Or.inr ⟨hc1, by rw [b2 0 (by omega)]; exact hm1, n, A, B, C, Kd, P, X, Y, ⟨h6, h8, hc.2.2.2, hok⟩, ⟨?_, ?_, ?_, ?_⟩, fun s hs => ?_, fun p hpp => ?_⟩⟩
    · rw [hcI 15 (by omega), a3, hc.1]
    · rw [hcI 15 (by omega), a4, hp.1]
    · rw [b5, hm0 0 (by omega), hn]
    · rw [b6, hm0 5 (by omega), hpm.1]
    · obtain ⟨e1, e2, e3, e4⟩ := a5 s (by omega)
      obtain ⟨f1, f2, f3, f4⟩ := b3 s (by omega)
      obtain ⟨k1, k2, k3⟩ := hkd s hs
      obtain ⟨l1, l2, l3⟩ := hc.2.2.1 s hs
      obtain ⟨m1, m2, m3⟩ := hm.2.1 s hs
      refine ⟨⟨?_, ?_, ?_, ?_⟩, ⟨?_, ?_, ?_, ?_⟩, k3⟩
      · rw [hcI 16 (by omega)]; exact e1.trans k1
      · rw [hcI 17 (by omega)]; exact e2.trans l1
      · rw [hcI 18 (by omega)]; exact e3.trans l2
      · rw [hcI 19 (by omega)]; exact e4.trans l3
      · rw [f1, hmI 1 (by omega)]; exact k2
      · rw [f2, hmI 2 (by omega)]; exact m1
      · rw [f3, hmI 3 (by omega)]; exact m2
      · rw [f4, hmI 4 (by omega)]; exact m3
    · obtain ⟨e1, e2⟩ := a6 p (by omega)
      obtain ⟨f1, f2⟩ := b4 p (by omega)
      obtain ⟨k1, k2, k3, k4⟩ := hp.2.2 p hpp
      obtain ⟨l1, l2, -, -⟩ := hpm.2.2 p hpp
      refine ⟨?_, ?_, ?_, ?_, k3, k4⟩
      · rw [hcI 20 (by omega)]; exact e1.trans k1
      · rw [hcI 21 (by omega)]; exact e2.trans k2
      · rw [f1, hmI 6 (by omega)]; exact l1
      · rw [f2, hmI 7 (by omega)]; exact l2
theorem s_on (sc sm : XS) (h : xz_RR sc sm) : ∃ (r : Int32) (sc2 sm2 : XS), F_All_on sc = some (r, sc2) ∧ F_Mod_on sm = some (r, sm2) ∧ xz_RR sc2 sm2 := by
  have hq := h
  obtain ⟨-, h2, h3, h4, h5⟩ := h
  unfold F_All_on F_Mod_on
  rcases h5 with ⟨e1, e2⟩ | ⟨e1, e2, n, A, B, C, Kd, P, X, Y, hJ⟩
  · rw [if_pos e1, if_pos e2]
    exact st_no3 hq
  · rw [if_neg (by rw [e1]; decide), if_neg (by rw [e2]; decide)]
    obtain ⟨t1, g1, a1, a2, a3, a4, a5, a6⟩ := e_copy_v3 sc
    obtain ⟨t2, g2, b1, b2, b3, b4, b5, b6, b7⟩ := e_again_v1 sm
    obtain ⟨⟨h6, h8, hb, hok⟩, ⟨i1, i2, i3, i4⟩, hs, hp⟩ := id hJ
    have hcL : cL t1 n A B C := by
      refine ⟨a3.trans i1, h6, fun s hs9 => ?_, hb⟩
      obtain ⟨c1, c2, c3, c4⟩ := a5 s (by omega)
      obtain ⟨⟨d1, d2, d3, d4⟩, -, -⟩ := hs s hs9
      exact ⟨c2.trans d2, c3.trans d3, c4.trans d4⟩
    obtain ⟨t3, g3, c1, c2⟩ := e_measure hcL
    rw [g1, Option.bind_some, g2, Option.bind_some, g3, Option.bind_some]
    have hJ2 : xJ t3 t2 n A B C Kd P X Y := xJ_of hJ (fun k _ _ => by rw [c1 k (by omega), a2 k (by omega)]) (b2 16 (by omega))
    refine ⟨zI (n : Int), t3, t2, ?_, ?_, ⟨n, A, B, C, Kd, P, X, Y, ?_, hok, c2, fun s hs9 => ?_, ⟨?_, h8, fun p hpp => ?_⟩, b6.trans i3, ⟨by omega, fun s hs9 => ?_, hb⟩, ⟨b7.trans i4, h8, fun p hpp => ?_⟩⟩, ?_, ?_, ?_, Or.inr ⟨?_, ?_, n, A, B, C, Kd, P, X, Y, hJ2⟩⟩
    · rw [c1 1 (by omega), hcL.1]
    · rw [b6, i3]
    · unfold cL at *
      rw [c1 1 (by omega), c1 3 (by omega), c1 4 (by omega), c1 5 (by omega)]; exact hcL
    · obtain ⟨⟨d1, -, -, -⟩, ⟨d5, -, -, -⟩, d9⟩ := hs s hs9
      rw [c1 2 (by omega)]
      exact ⟨(a5 s (by omega)).1.trans d1, (b4 s (by omega)).1.trans d5, d9⟩
    · rw [c1 1 (by omega)]; exact a4.trans i2
    · obtain ⟨d1, d2, d3, d4, d5, d6⟩ := hp p hpp
      rw [c1 6 (by omega), c1 7 (by omega)]
      exact ⟨(a6 p (by omega)).1.trans d1, (a6 p (by omega)).2.trans d2, d5, d6⟩
    · obtain ⟨-, ⟨d5, d6, d7, d8⟩, d9⟩ := hs s hs9
      obtain ⟨f1, f2, f3, f4⟩ := b4 s (by omega)
      exact ⟨f2.trans d6, f3.trans d7, f4.trans d8⟩
    · obtain ⟨d1, d2, d3, d4, d5, d6⟩ := hp p hpp
      exact ⟨(b5 p (by omega)).1.trans d3, (b5 p (by omega)).2.trans d4, d5, d6⟩
    · exact xT_of h2 (by rw [c1 28 (by omega), a2 28 (by omega)]) (by rw [c1 29 (by omega), a2 29 (by omega)]) (b3 8 (by omega) (by omega)) (b2 9 (by omega))
    · exact xW_of h3 (by rw [c1 0 (by omega), a2 0 (by omega)]) (by rw [c1 31 (by omega), a2 31 (by omega)]) (b3 12 (by omega) (by omega)) (b2 13 (by omega))
    · exact xF_of h4 (by rw [c1 32 (by omega), a2 32 (by omega)]) (b2 14 (by omega))
    · rw [c1 0 (by omega), a2 0 (by omega)]; exact e1
    · rw [b3 15 (by omega) (by omega)]; exact e2
