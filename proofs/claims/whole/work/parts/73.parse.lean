/-! letters read, as numbers of places: the class and the reference -/
def pt (L : Nat → Nat) (l c a : Nat) : Bool := decide (a < l) && decide (L a = c)
def pd (L : Nat → Nat) (l a : Nat) : Bool := decide (a < l) && decide (48 ≤ L a ∧ L a ≤ 57)
def psn (L : Nat → Nat) (l a : Nat) (v : Int) : Int := if pt L l 45 a then -v else v
def pn (L : Nat → Nat) (l : Nat) (two : Bool) (a : Nat) : Nat × Option Int :=
  if (pt L l 45 a || pt L l 43 a) = true then
    if pd L l (a + 1) = true then
      if (two && pd L l (a + 2)) = true then (a + 3, some (psn L l a (10 * ((L (a + 1) : Int) - 48) + ((L (a + 2) : Int) - 48)))) else (a + 2, some (psn L l a ((L (a + 1) : Int) - 48)))
    else (a + 1, none)
  else (a, none)
/-- the class's state: the place is a, the kind k, the numbers f -/
def cS (st : XS) (a : Nat) (k : Int32) (f : Nat → Int32) : XS := (fun c => if c = 28 then (fun j => if j = 2 then zI (a : Int) else if j = 3 then k else st.1 28 j) else if c = 30 then f else st.1 c, st.2)
theorem cS_self {st : XS} {a : Nat} (h : st.1 28 2 = zI (a : Int)) : st = cS st a (st.1 28 3) (st.1 30) := by
  unfold cS
  refine Prod.ext ?_ rfl
  funext c
  dsimp only
  by_cases e : c = 28
  · subst e
    rw [if_pos rfl]
    funext j
    by_cases e2 : j = 2
    · subst e2; rw [if_pos rfl, h]
    · rw [if_neg e2]
      by_cases e3 : j = 3
      · subst e3; rw [if_pos rfl]
      · rw [if_neg e3]
  · rw [if_neg e]
    by_cases e3 : c = 30
    · subst e3; rw [if_pos rfl]
    · rw [if_neg e3]
theorem cS_at (st : XS) (a b : Nat) (k : Int32) (f : Nat → Int32) : xs_I (cS st a k f) 28 2 (zI (b : Int)) = cS st b k f := by
  unfold cS xs_I
  refine Prod.ext ?_ rfl
  funext c
  dsimp only
  by_cases e : c = 28
  · subst e
    rw [if_pos rfl, if_pos rfl, if_pos rfl]
    funext j
    unfold upd
    by_cases e2 : j = 2
    · subst e2; rw [if_pos rfl, if_pos rfl]
    · simp [e2]
  · rw [if_neg e, if_neg e, if_neg e]
theorem cS_kind (st : XS) (a : Nat) (k k2 : Int32) (f : Nat → Int32) : xs_I (cS st a k f) 28 3 k2 = cS st a k2 f := by
  unfold cS xs_I
  refine Prod.ext ?_ rfl
  funext c
  dsimp only
  by_cases e : c = 28
  · subst e
    rw [if_pos rfl, if_pos rfl, if_pos rfl]
    funext j
    unfold upd
    by_cases e2 : j = 3
    · subst e2; rw [if_pos rfl, if_neg (by decide), if_pos rfl]
    · simp [e2]
  · rw [if_neg e, if_neg e, if_neg e]
theorem cS_num (st : XS) (a : Nat) (k : Int32) (f : Nat → Int32) (g : Nat → Int32) : xs_A (cS st a k f) 30 g = cS st a k g := by
  unfold cS xs_A
  refine Prod.ext ?_ rfl
  funext c
  dsimp only
  by_cases e : c = 30
  · subst e
    rw [if_pos rfl, if_neg (by decide), if_pos rfl]
  · rw [if_neg e, if_neg e, if_neg e]
theorem cS_1 (st : XS) (a : Nat) (k : Int32) (f : Nat → Int32) : (cS st a k f).1 28 1 = st.1 28 1 := rfl
theorem cS_2 (st : XS) (a : Nat) (k : Int32) (f : Nat → Int32) : (cS st a k f).1 28 2 = zI (a : Int) := rfl
theorem cS_3 (st : XS) (a : Nat) (k : Int32) (f : Nat → Int32) : (cS st a k f).1 28 3 = k := rfl
theorem cS_29 (st : XS) (a : Nat) (k : Int32) (f : Nat → Int32) : (cS st a k f).1 29 = st.1 29 := rfl
theorem cS_30 (st : XS) (a : Nat) (k : Int32) (f : Nat → Int32) : (cS st a k f).1 30 = f := rfl
theorem cS_o (st : XS) (a : Nat) (k : Int32) (f : Nat → Int32) {c : Nat} (h : c ≠ 28) (h2 : c ≠ 30) : (cS st a k f).1 c = st.1 c := by
  unfold cS; dsimp only; rw [if_neg h, if_neg h2]
/-- the letters told -/
def lC (st : XS) (L : Nat → Nat) (l : Nat) : Prop := l ≤ 96 ∧ st.1 28 1 = zI (l : Int) ∧ ∀ i, i < l → L i < 256 ∧ st.1 29 i = zI (L i : Int)
theorem e_takes {st : XS} {L : Nat → Nat} {l a c : Nat} (h : lC st L l) (ha : a ≤ l) (hc : c < 256) (k : Int32) (f : Nat → Int32) : F_Let_takes (zI (c : Int)) (cS st a k f) = some (zI (if pt L l c a = true then 1 else 0), cS st (if pt L l c a = true then a + 1 else a) k f) := by
  obtain ⟨h1, h2, h3⟩ := h
  unfold F_Let_takes F_Let_takes_m28 F_Let_takes_m29
  rw [cS_1, cS_2, cS_29, h2]
  by_cases hl : a < l
  · obtain ⟨g1, g2⟩ := h3 a hl
    rw [if_neg (zI_ge1 (by omega) hl), xo_rd_z (show a < 96 by omega) (by decide), Option.bind_some, g2]
    by_cases e : L a = c
    · have hp : pt L l c a = true := by unfold pt; simp [hl, e]
      rw [if_pos (by rw [e]), if_neg (show ¬ (1 : Int32) = 0 by decide), xo_nm_b, zI_suc, cS_at, if_pos hp, if_pos hp]; rfl
    · have hp : ¬ pt L l c a = true := by unfold pt; simp [e]
      rw [if_neg (by rw [zI_eq (zB_n (by omega)) (zB_n (by omega)), Int.ofNat_inj]; exact e), if_pos rfl, if_neg hp, if_neg hp]; rfl
  · have hp : ¬ pt L l c a = true := by unfold pt; simp [hl]
    have e : a = l := by omega
    rw [if_pos (by rw [e]; exact zI_rfl _), if_pos rfl, if_neg hp, if_neg hp]; rfl
theorem e_isDig {st : XS} {L : Nat → Nat} {l a : Nat} (h : lC st L l) (ha : a ≤ l) (k : Int32) (f : Nat → Int32) : F_Let_isDigit (cS st a k f) = some (zI (if pd L l a = true then 1 else 0)) := by
  obtain ⟨h1, h2, h3⟩ := h
  unfold F_Let_isDigit
  rw [cS_1, cS_2, cS_29, h2]
  by_cases hl : a < l
  · obtain ⟨g1, g2⟩ := h3 a hl
    have k1 : zI (L a : Int) < (48 : Int32) ↔ (L a : Int) < 48 := zi_lt (zB_n (by omega)) (by decide) _ _ rfl rfl
    have k2 : (57 : Int32) < zI (L a : Int) ↔ 57 < (L a : Int) := zi_lt (by decide) (zB_n (by omega)) _ _ rfl rfl
    rw [if_neg (zI_ge1 (by omega) hl), xo_rd_z (show a < 96 by omega) (by decide), Option.bind_some, Option.bind_some, g2]
    simp only [k1, k2]
    unfold pd
    rw [decide_eq_true hl, Bool.true_and]
    by_cases c1 : (L a : Int) < 48
    · rw [if_pos c1, if_neg (by simp; omega)]; rfl
    · rw [if_neg c1]
      by_cases c2 : 57 < (L a : Int)
      · rw [if_pos c2, if_neg (by simp; omega)]; rfl
      · rw [if_neg c2, if_pos (by simp; omega)]; rfl
  · have hp : ¬ pd L l a = true := by unfold pd; simp [hl]
    have e : a = l := by omega
    rw [if_pos (by rw [e]; exact zI_rfl _), if_neg hp]; rfl
theorem lp_s1 {σ ρ : Type} {f : σ → Option (σ ⊕ ρ)} {x y : σ} {n : Nat} (h : f x = some (.inl y)) : xo_lp f (n + 1) x = xo_lp f n y := by
  rw [xo_lp, h]; rfl
theorem lp_e1 {σ ρ : Type} {f : σ → Option (σ ⊕ ρ)} {x : σ} {r : ρ} {n : Nat} (h : f x = some (.inr r)) : xo_lp f (n + 1) x = some r := by
  rw [xo_lp, h]; rfl
theorem pd_lt {L : Nat → Nat} {l a : Nat} (h : pd L l a = true) : a < l ∧ 48 ≤ L a ∧ L a ≤ 57 := by
  unfold pd at h
  simpa using h
theorem pt_lt {L : Nat → Nat} {l c a : Nat} (h : pt L l c a = true) : a < l ∧ L a = c := by
  unfold pt at h
  simpa using h
theorem e_dig1 {st : XS} {L : Nat → Nat} {l a : Nat} (h : lC st L l) (hd : pd L l a = true) (k : Int32) (f : Nat → Int32) (x1 x2 x3 : Int32) (v : Int) (i : Nat) (hx : ¬ x2 ≤ zI (i : Int)) : F_Let_readNumber_b35 x1 x2 x3 (zI v) (zI (i : Int)) (cS st a k f) = some (.inl (zI (v * 10 + ((L a : Int) - 48)), zI ((i + 1 : Nat) : Int), cS st (a + 1) k f)) := by
  obtain ⟨d1, d2, d3⟩ := pd_lt hd
  obtain ⟨h1, h2, h3⟩ := id h
  obtain ⟨g1, g2⟩ := h3 a d1
  unfold F_Let_readNumber_b35
  rw [if_neg hx, e_isDig h (by omega), Option.bind_some, if_pos hd, if_neg (by decide), cS_29, cS_2, xo_rd_z (show a < 96 by omega) (by decide), Option.bind_some, g2, xo_nm_b, xo_nm_b, xo_nm_b, zI_suc, zI_suc, cS_at]
  have e10 : (10 : Int32) = zI 10 := rfl
  have e48 : (48 : Int32) = zI 48 := rfl
  rw [e10, e48, zI_mul, zI_add, zI_sub, show v * 10 + (L a : Int) - 48 = v * 10 + ((L a : Int) - 48) by omega]
theorem e_num20 {st : XS} {L : Nat → Nat} {l a w : Nat} (h : lC st L l) (ha : a ≤ l) (hw : w < 3) (two : Bool) (neg : Bool) (k : Int32) (f : Nat → Int32) : F_Let_readNumber_m20 (zI (w : Int)) (zI ((if two then 2 else 1 : Nat) : Int)) (zI (if neg then 1 else 0)) (cS st a k f) = if pd L l a = true then (if (two && pd L l (a + 1)) = true then some (1, cS st (a + 2) k (upd f w (zI (if neg then -(10 * ((L a : Int) - 48) + ((L (a + 1) : Int) - 48)) else (10 * ((L a : Int) - 48) + ((L (a + 1) : Int) - 48)))))) else some (1, cS st (a + 1) k (upd f w (zI (if neg then -((L a : Int) - 48) else (L a : Int) - 48))))) else some (0, cS st a k f) := by
  unfold F_Let_readNumber_m20
  rw [e_isDig h ha, Option.bind_some]
  by_cases hd : pd L l a = true
  · obtain ⟨d1, d2, d3⟩ := pd_lt hd
    rw [if_pos hd, if_neg (by decide), if_pos hd]
    have hend : ∀ (v : Int) (b : Nat), (xo_u2 fun o7 t8 => if zI (if neg then 1 else 0) = (0 : Int32) then (xo_ck 3 (zI (w : Int))).bind fun _ => xo_nm (xs_A t8 30 (upd (t8.1 30) (zI (w : Int)).toNatClampNeg o7)) fun t9 => some ((1 : Int32), t9) else (xo_ck 3 (zI (w : Int))).bind fun _ => xo_nm (xs_A t8 30 (upd (t8.1 30) (zI (w : Int)).toNatClampNeg (-o7))) fun t10 => some ((1 : Int32), t10)) (zI v, cS st b k f) = some ((1 : Int32), cS st b k (upd f w (zI (if neg then -v else v)))) := by
      intro v b
      unfold xo_u2
      dsimp only
      rw [xo_ck_z hw (by decide), Option.bind_some, Option.bind_some, xo_nm_b, xo_nm_b, zI_cl (by omega), cS_30, cS_num, cS_num, zI_neg]
      cases neg with
      | true => rw [if_neg (show ¬ zI (if true = true then 1 else 0) = (0 : Int32) by decide)]; rfl
      | false => rw [if_pos (show zI (if false = true then 1 else 0) = (0 : Int32) from rfl)]; rfl
    have e0 : ((0 : Int32), (0 : Int32), cS st a k f) = (zI 0, zI ((0 : Nat) : Int), cS st a k f) := rfl
    have e6 : (1000000 : Nat) = 999997 + 1 + 1 + 1 := rfl
    rw [e0, e6]
    have hx0 : ¬ zI ((if two then 2 else 1 : Nat) : Int) ≤ zI ((0 : Nat) : Int) := by cases two <;> decide
    rw [lp_s1 (e_dig1 h hd k f _ _ _ 0 0 hx0)]
    have ev : (0 : Int) * 10 + ((L a : Int) - 48) = (L a : Int) - 48 := by omega
    rw [ev]
    cases two with
    | false =>
      rw [lp_e1 (r := (zI ((L a : Int) - 48), cS st (a + 1) k f)) (by
        unfold F_Let_readNumber_b35
        rw [if_pos (show zI ((if false = true then 2 else 1 : Nat) : Int) ≤ zI ((0 + 1 : Nat) : Int) by decide)]), Option.bind_some, hend, Bool.false_and, if_neg (show ¬ (false = true) by decide)]
    | true =>
      rw [Bool.true_and]
      by_cases hd2 : pd L l (a + 1) = true
      · rw [lp_s1 (e_dig1 h hd2 k f _ _ _ _ _ (by decide)), lp_e1 (r := (zI (((L a : Int) - 48) * 10 + ((L (a + 1) : Int) - 48)), cS st (a + 1 + 1) k f)) (by
          unfold F_Let_readNumber_b35
          rw [if_pos (show zI ((if true = true then 2 else 1 : Nat) : Int) ≤ zI ((0 + 1 + 1 : Nat) : Int) by decide)]), Option.bind_some, hend, if_pos hd2, Int.mul_comm ((L a : Int) - 48) 10]
      · rw [lp_e1 (r := (zI ((L a : Int) - 48), cS st (a + 1) k f)) (by
          unfold F_Let_readNumber_b35
          dsimp only
          rw [if_neg (show ¬ zI ((if true = true then 2 else 1 : Nat) : Int) ≤ zI ((0 + 1 : Nat) : Int) by decide), e_isDig h (by omega), Option.bind_some, if_neg hd2, if_pos (show zI 0 = (0 : Int32) from rfl)]), Option.bind_some, hend, if_neg hd2]
  · rw [if_neg hd, if_pos (show zI 0 = (0 : Int32) from rfl), if_neg hd]
theorem e_readNum {st : XS} {L : Nat → Nat} {l a w : Nat} (h : lC st L l) (ha : a ≤ l) (hw : w < 3) (two : Bool) (k : Int32) (f : Nat → Int32) : F_Let_readNumber (zI (w : Int)) (zI ((if two then 2 else 1 : Nat) : Int)) (cS st a k f) = match pn L l two a with
    | (b, none) => some (0, cS st b k f)
    | (b, some v) => some (1, cS st b k (upd f w (zI v))) := by
  unfold F_Let_readNumber
  have t1 : F_Let_takes (45 : Int32) (cS st a k f) = some (zI (if pt L l 45 a = true then 1 else 0), cS st (if pt L l 45 a = true then a + 1 else a) k f) := e_takes (c := 45) h ha (by decide) k f
  have t2 : F_Let_takes (43 : Int32) (cS st a k f) = some (zI (if pt L l 43 a = true then 1 else 0), cS st (if pt L l 43 a = true then a + 1 else a) k f) := e_takes (c := 43) h ha (by decide) k f
  rw [t1]
  unfold xo_bn
  rw [Option.bind_some]
  dsimp only
  unfold pn psn
  have fin : ∀ neg : Bool, a + 1 ≤ l → F_Let_readNumber_m20 (zI (w : Int)) (zI ((if two then 2 else 1 : Nat) : Int)) (zI (if neg then 1 else 0)) (cS st (a + 1) k f) = match (if pd L l (a + 1) = true then if (two && pd L l (a + 2)) = true then (a + 3, some (if neg then -(10 * ((L (a + 1) : Int) - 48) + ((L (a + 2) : Int) - 48)) else (10 * ((L (a + 1) : Int) - 48) + ((L (a + 2) : Int) - 48)))) else (a + 2, some (if neg then -((L (a + 1) : Int) - 48) else ((L (a + 1) : Int) - 48))) else (a + 1, none) : Nat × Option Int) with
      | (b, none) => some (0, cS st b k f)
      | (b, some v) => some (1, cS st b k (upd f w (zI v))) := by
    intro neg hl
    rw [e_num20 h hl hw two neg k f]
    by_cases c1 : pd L l (a + 1) = true
    · rw [if_pos c1, if_pos c1]
      by_cases c2 : (two && pd L l (a + 2)) = true
      · rw [if_pos c2, if_pos c2]
      · rw [if_neg c2, if_neg c2]
    · rw [if_neg c1, if_neg c1]
  by_cases c1 : pt L l 45 a = true
  · have hl := (pt_lt c1).1
    have := fin true (by omega)
    rw [if_pos rfl, if_pos rfl] at this
    rw [if_pos c1, if_pos c1, if_neg (show ¬ zI 1 = (0 : Int32) by decide), c1, Bool.true_or, if_pos rfl, if_pos rfl, if_pos rfl]
    exact this
  · have c1' : pt L l 45 a = false := by simpa using c1
    rw [if_neg c1, if_neg c1, if_pos (show zI 0 = (0 : Int32) from rfl), t2, Option.bind_some, c1', Bool.false_or]
    dsimp only
    by_cases c2 : pt L l 43 a = true
    · have hl := (pt_lt c2).1
      have := fin false (by omega)
      rw [if_neg (show ¬ (false = true) by decide), if_neg (show ¬ (false = true) by decide)] at this
      rw [if_pos c2, if_pos c2, if_neg (show ¬ zI 1 = (0 : Int32) by decide), if_pos c2, if_neg (show ¬ (false = true) by decide), if_neg (show ¬ (false = true) by decide)]
      exact this
    · rw [if_neg c2, if_neg c2, if_pos (show zI 0 = (0 : Int32) from rfl), if_neg c2]
