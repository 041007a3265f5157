/-! a statement read, as the reference does it -/
def mT (st : XS) (a : Nat) (f : Nat → Int32) : XS := (fun c => if c = 0 then (fun j => if j = 10 then zI (a : Int) else st.1 0 j) else if c = 11 then f else st.1 c, st.2)
theorem mT_self {st : XS} {a : Nat} (h : st.1 0 10 = zI (a : Int)) : st = mT st a (st.1 11) := by
  unfold mT
  refine Prod.ext ?_ rfl
  funext c
  dsimp only
  by_cases e : c = 0
  · subst e
    rw [if_pos rfl]
    funext j
    by_cases e2 : j = 10
    · subst e2; rw [if_pos rfl, h]
    · rw [if_neg e2]
  · rw [if_neg e]
    by_cases e3 : c = 11
    · subst e3; rw [if_pos rfl]
    · rw [if_neg e3]
theorem mT_at (st : XS) (a b : Nat) (f : Nat → Int32) : xs_I (mT st a f) 0 10 (zI (b : Int)) = mT st b f := by
  unfold mT xs_I
  refine Prod.ext ?_ rfl
  funext c
  dsimp only
  by_cases e : c = 0
  · subst e
    rw [if_pos rfl, if_pos rfl, if_pos rfl]
    funext j
    unfold upd
    by_cases e2 : j = 10
    · subst e2; rw [if_pos rfl, if_pos rfl]
    · simp [e2]
  · rw [if_neg e, if_neg e, if_neg e]
theorem mT_num (st : XS) (a : Nat) (f g : Nat → Int32) : xs_A (mT st a f) 11 g = mT st a g := by
  unfold mT xs_A
  refine Prod.ext ?_ rfl
  funext c
  dsimp only
  by_cases e : c = 11
  · subst e
    rw [if_pos rfl, if_neg (by decide), if_pos rfl]
  · rw [if_neg e, if_neg e, if_neg e]
theorem mT_10 (st : XS) (a : Nat) (f : Nat → Int32) : (mT st a f).1 0 10 = zI (a : Int) := rfl
theorem mT_8 (st : XS) (a : Nat) (f : Nat → Int32) : (mT st a f).1 0 8 = st.1 0 8 := rfl
theorem mT_9 (st : XS) (a : Nat) (f : Nat → Int32) : (mT st a f).1 9 = st.1 9 := rfl
theorem mT_11 (st : XS) (a : Nat) (f : Nat → Int32) : (mT st a f).1 11 = f := rfl
theorem mT_o (st : XS) (a : Nat) (f : Nat → Int32) {c : Nat} (h : c ≠ 0) (h2 : c ≠ 11) : (mT st a f).1 c = st.1 c := by
  unfold mT; dsimp only; rw [if_neg h, if_neg h2]
theorem mT_0 (st : XS) (a : Nat) (f : Nat → Int32) {j : Nat} (h : j ≠ 10) : (mT st a f).1 0 j = st.1 0 j := by
  unfold mT; dsimp only; rw [if_pos rfl, if_neg h]
def lM (st : XS) (L : Nat → Nat) (l : Nat) : Prop := l ≤ 96 ∧ st.1 0 8 = zI (l : Int) ∧ ∀ i, i < l → L i < 256 ∧ st.1 9 i = zI (L i : Int)
theorem e_mis {st : XS} {L : Nat → Nat} {l a c : Nat} (h : lM st L l) (ha : a ≤ l) (hc : c < 256) (f : Nat → Int32) : F_Mod_is (zI (c : Int)) (mT st a f) = some (zI (if pt L l c a = true then 1 else 0), mT st (if pt L l c a = true then a + 1 else a) f) := by
  obtain ⟨h1, h2, h3⟩ := h
  unfold F_Mod_is
  rw [mT_8, mT_10, mT_9, h2]
  by_cases hl : a < l
  · obtain ⟨g1, g2⟩ := h3 a hl
    rw [if_neg (by rw [zI_eq (zB_n (by omega)) (zB_n (by omega))]; omega), xo_rd_z (show a < 96 by omega) (by decide), Option.bind_some, g2]
    by_cases e : L a = c
    · have hp : pt L l c a = true := by unfold pt; simp [hl, e]
      rw [if_pos (by rw [e]), xo_nm_b, zI_suc, mT_at, if_pos hp, if_pos hp]; rfl
    · have hp : ¬ pt L l c a = true := by unfold pt; simp [e]
      rw [if_neg (by rw [zI_eq (zB_n (by omega)) (zB_n (by omega)), Int.ofNat_inj]; exact e), if_neg hp, if_neg hp]; rfl
  · have hp : ¬ pt L l c a = true := by unfold pt; simp [hl]
    have e : a = l := by omega
    rw [if_pos (by rw [e]), if_neg hp, if_neg hp]; rfl
theorem e_misDig {st : XS} {L : Nat → Nat} {l a : Nat} (h : lM st L l) (ha : a ≤ l) (f : Nat → Int32) : F_Mod_isDigit (mT st a f) = some (zI (if pd L l a = true then 1 else 0)) := by
  obtain ⟨h1, h2, h3⟩ := h
  unfold F_Mod_isDigit
  rw [mT_8, mT_10, mT_9, h2]
  by_cases hl : a < l
  · obtain ⟨g1, g2⟩ := h3 a hl
    have k1 : zI (L a : Int) < (48 : Int32) ↔ (L a : Int) < 48 := zi_lt (zB_n (by omega)) (by decide) _ _ rfl rfl
    have k2 : (57 : Int32) < zI (L a : Int) ↔ 57 < (L a : Int) := zi_lt (by decide) (zB_n (by omega)) _ _ rfl rfl
    rw [if_neg (zI_ge1 (by omega) hl), xo_rd_z (show a < 96 by omega) (by decide), Option.bind_some, Option.bind_some, g2]
    simp only [k1, k2]
    unfold pd
    rw [decide_eq_true hl, Bool.true_and]
    by_cases c1 : (L a : Int) < 48
    · rw [if_pos c1, if_neg (by simp; omega)]; rfl
    · rw [if_neg c1]
      by_cases c2 : 57 < (L a : Int)
      · rw [if_pos c2, if_neg (by simp; omega)]; rfl
      · rw [if_neg c2, if_pos (by simp; omega)]; rfl
  · have hp : ¬ pd L l a = true := by unfold pd; simp [hl]
    have e : a = l := by omega
    rw [if_pos (by rw [e]; exact zI_rfl _), if_neg hp]; rfl
theorem e_mnum88 {st : XS} {w : Nat} (hw : w < 3) (a : Nat) (f : Nat → Int32) (neg : Bool) (v : Int) : F_Mod_number_m88 (zI (w : Int)) (zI (if neg then 1 else 0)) (zI v) (mT st a f) = some (1, mT st a (upd f w (zI (if neg then -v else v)))) := by
  unfold F_Mod_number_m88
  rw [xo_ck_z hw (by decide), Option.bind_some, Option.bind_some, xo_nm_b, xo_nm_b, zI_cl (by omega), mT_11, mT_num, mT_num, zI_neg]
  cases neg with
  | true => rw [if_neg (show ¬ zI (if true = true then 1 else 0) = (0 : Int32) by decide)]; rfl
  | false => rw [if_pos (show zI (if false = true then 1 else 0) = (0 : Int32) from rfl)]; rfl
theorem e_mnum20 {st : XS} {L : Nat → Nat} {l a w : Nat} (h : lM st L l) (ha : a ≤ l) (hw : w < 3) (two : Bool) (neg : Bool) (f : Nat → Int32) : F_Mod_number_m20 (zI (w : Int)) (zI (if two then 1 else 0)) (zI (if neg then 1 else 0)) (mT st a f) = if pd L l a = true then (if (two && pd L l (a + 1)) = true then some (1, mT st (a + 2) (upd f w (zI (if neg then -(10 * ((L a : Int) - 48) + ((L (a + 1) : Int) - 48)) else (10 * ((L a : Int) - 48) + ((L (a + 1) : Int) - 48)))))) else some (1, mT st (a + 1) (upd f w (zI (if neg then -((L a : Int) - 48) else (L a : Int) - 48))))) else some (0, mT st a f) := by
  have hh := h
  obtain ⟨h1, h2, h3⟩ := h
  unfold F_Mod_number_m20
  rw [e_misDig hh ha, Option.bind_some]
  by_cases hd : pd L l a = true
  · obtain ⟨d1, d2, d3⟩ := pd_lt hd
    obtain ⟨g1, g2⟩ := h3 a d1
    have e48 : (48 : Int32) = zI 48 := rfl
    rw [if_pos hd, if_neg (show ¬ zI 1 = (0 : Int32) by decide), mT_10, xo_nm_b, zI_suc, mT_at, mT_9, xo_rd_z (show a < 96 by omega) (by decide), Option.bind_some, g2, e48, zI_sub, xo_nm_b, if_pos hd]
    cases two with
    | false =>
      rw [if_pos (show zI (if false = true then 1 else 0) = (0 : Int32) from rfl), e_mnum88 hw, Bool.false_and, if_neg (show ¬ (false = true) by decide)]
    | true =>
      rw [if_neg (show ¬ zI (if true = true then 1 else 0) = (0 : Int32) by decide), e_misDig hh (by omega), Option.bind_some, Bool.true_and]
      by_cases hd2 : pd L l (a + 1) = true
      · obtain ⟨d4, d5, d6⟩ := pd_lt hd2
        obtain ⟨g3, g4⟩ := h3 (a + 1) d4
        have e10 : (10 : Int32) = zI 10 := rfl
        rw [if_pos hd2, if_neg (show ¬ zI 1 = (0 : Int32) by decide), mT_10, xo_nm_b, zI_suc, mT_at, mT_9, xo_rd_z (show a + 1 < 96 by omega) (by decide), Option.bind_some, g4, e10, zI_mul, zI_add, zI_sub, xo_nm_b, e_mnum88 hw, if_pos hd2, show 10 * ((L a : Int) - 48) + (L (a + 1) : Int) - 48 = 10 * ((L a : Int) - 48) + ((L (a + 1) : Int) - 48) by omega]
      · rw [if_neg hd2, if_pos (show zI 0 = (0 : Int32) from rfl), e_mnum88 hw, if_neg hd2]
  · rw [if_neg hd, if_pos (show zI 0 = (0 : Int32) from rfl), if_neg hd]
theorem e_mNum {st : XS} {L : Nat → Nat} {l a w : Nat} (h : lM st L l) (ha : a ≤ l) (hw : w < 3) (two : Bool) (f : Nat → Int32) : F_Mod_number (zI (w : Int)) (zI (if two then 1 else 0)) (mT st a f) = match pn L l two a with
    | (b, none) => some (0, mT st b f)
    | (b, some v) => some (1, mT st b (upd f w (zI v))) := by
  unfold F_Mod_number
  have t1 : F_Mod_is (45 : Int32) (mT st a f) = some (zI (if pt L l 45 a = true then 1 else 0), mT st (if pt L l 45 a = true then a + 1 else a) f) := e_mis (c := 45) h ha (by decide) f
  have t2 : F_Mod_is (43 : Int32) (mT st a f) = some (zI (if pt L l 43 a = true then 1 else 0), mT st (if pt L l 43 a = true then a + 1 else a) f) := e_mis (c := 43) h ha (by decide) f
  rw [t1]
  unfold xo_bn
  rw [Option.bind_some]
  dsimp only
  unfold pn psn
  have fin : ∀ neg : Bool, a + 1 ≤ l → F_Mod_number_m20 (zI (w : Int)) (zI (if two then 1 else 0)) (zI (if neg then 1 else 0)) (mT st (a + 1) f) = match (if pd L l (a + 1) = true then if (two && pd L l (a + 2)) = true then (a + 3, some (if neg then -(10 * ((L (a + 1) : Int) - 48) + ((L (a + 2) : Int) - 48)) else (10 * ((L (a + 1) : Int) - 48) + ((L (a + 2) : Int) - 48)))) else (a + 2, some (if neg then -((L (a + 1) : Int) - 48) else ((L (a + 1) : Int) - 48))) else (a + 1, none) : Nat × Option Int) with
      | (b, none) => some (0, mT st b f)
      | (b, some v) => some (1, mT st b (upd f w (zI v))) := by
    intro neg hl
    rw [e_mnum20 h hl hw two neg f]
    by_cases c1 : pd L l (a + 1) = true
    · rw [if_pos c1, if_pos c1]
      by_cases c2 : (two && pd L l (a + 2)) = true
      · rw [if_pos c2, if_pos c2]
      · rw [if_neg c2, if_neg c2]
    · rw [if_neg c1, if_neg c1]
  by_cases c1 : pt L l 45 a = true
  · have hl := (pt_lt c1).1
    have := fin true (by omega)
    rw [if_pos rfl, if_pos rfl] at this
    rw [if_pos c1, if_pos c1, if_neg (show ¬ zI 1 = (0 : Int32) by decide), c1, Bool.true_or, if_pos rfl, if_pos rfl, if_pos rfl]
    exact this
  · have c1' : pt L l 45 a = false := by simpa using c1
    rw [if_neg c1, if_neg c1, if_pos (show zI 0 = (0 : Int32) from rfl), t2, Option.bind_some, c1', Bool.false_or]
    dsimp only
    by_cases c2 : pt L l 43 a = true
    · have hl := (pt_lt c2).1
      have := fin false (by omega)
      rw [if_neg (show ¬ (false = true) by decide), if_neg (show ¬ (false = true) by decide)] at this
      rw [if_pos c2, if_pos c2, if_neg (show ¬ zI 1 = (0 : Int32) by decide), if_pos c2, if_neg (show ¬ (false = true) by decide), if_neg (show ¬ (false = true) by decide)]
      exact this
    · rw [if_neg c2, if_neg c2, if_pos (show zI 0 = (0 : Int32) from rfl), if_neg c2]
theorem e_mn_n {st : XS} {L : Nat → Nat} {l a b w : Nat} (h : lM st L l) (ha : a ≤ l) (hw : w < 3) (two : Bool) (f : Nat → Int32) (hp : pn L l two a = (b, none)) : F_Mod_number (zI (w : Int)) (zI (if two then 1 else 0)) (mT st a f) = some (0, mT st b f) := by
  rw [e_mNum h ha hw, hp]
theorem e_mn_s {st : XS} {L : Nat → Nat} {l a b w : Nat} {v : Int} (h : lM st L l) (ha : a ≤ l) (hw : w < 3) (two : Bool) (f : Nat → Int32) (hp : pn L l two a = (b, some v)) : F_Mod_number (zI (w : Int)) (zI (if two then 1 else 0)) (mT st a f) = some (1, mT st b (upd f w (zI v))) := by
  rw [e_mNum h ha hw, hp]
