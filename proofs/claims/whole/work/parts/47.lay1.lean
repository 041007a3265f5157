/-! lay: all put out, then the ends of the lines -/
theorem nar_0 : vp_nar .boolean (0 : Int32) = zI 0 := rfl
theorem nar_1 : vp_nar .boolean (1 : Int32) = zI 1 := rfl
theorem yS_u {st t : XS} {E : Nat → Bool} {K : Nat → Nat} {p s m : Nat} (h : yS st t E K p s m) : lU st t := h.1
theorem yS_cong {st t : XS} {E E2 : Nat → Bool} {K K2 : Nat → Nat} {p s m : Nat} (h : yS st t E K p s m) (e1 : ∀ q, q < 128 → E q = E2 q) (e2 : ∀ q, q < 128 → K q = K2 q) : yS st t E2 K2 p s m := by
  refine ⟨h.1, fun q hq => ?_, h.2.2⟩
  rw [← e1 q hq, ← e2 q hq]; exact h.2.1 q hq
theorem yS_put {st t : XS} {E : Nat → Bool} {p s m : Nat} (h : yS st t E (fun _ => 0) p s m) (v : Nat) : yS st (xs_A (xs_A t 18 (upd (t.1 18) v (1 : Int32))) 19 (upd (t.1 19) v (zI 1))) (fun q => E q || decide (q = v)) (fun _ => 0) p s m := by
  obtain ⟨h1, h2, h3, h4, h5⟩ := h
  refine ⟨lU_trans h1 ⟨rfl, fun k h0 h18 h19 => by simp [xs_A, h18, h19], fun j hj => by simp [xs_A]⟩, fun q hq => ?_, ?_, ?_, ?_⟩
  · obtain ⟨g1, g2⟩ := h2 q hq
    by_cases e : q = v
    · subst e
      simp [xs_A, upd, gy_v]; rfl
    · simp [xs_A, upd, e, g1, g2]
  · simpa [xs_A] using h3
  · simpa [xs_A] using h4
  · simpa [xs_A] using h5
theorem shl_own : ∀ o, o < 2 → ∀ i, i < 7 → zI ((o : Nat) : Int) <<< (zI ((i : Nat) : Int) &&& 31) = zI ((o * 2 ^ i : Nat) : Int) := by decide +kernel
def gy_b (A B : Nat → Int) (n i : Nat) (w : Bool) : Nat := bm (fun s => decide (0 < (if w then -1 else 1) * gz_t A B (A i) (B i) s)) n
def gy_E1 (A B : Nat → Int) (n i : Nat) (w : Bool) (k q : Nat) : Bool := an (fun o => decide (q = gy_b A B n i w ||| o * 2 ^ i)) k
def gy_E2 (A B : Nat → Int) (n i k q : Nat) : Bool := an (fun w => gy_E1 A B n i (decide (w = 1)) 2 q) k
def gy_E (A B : Nat → Int) (n k q : Nat) : Bool := (decide (n = 0) && decide (q = 0)) || an (fun i => gy_E2 A B n i 2 q) k
theorem p2_128 {n : Nat} (h : n ≤ 7) : 2 ^ n ≤ 128 := (Nat.pow_le_pow_right (n := 2) (by decide) h : 2 ^ n ≤ 2 ^ 7)
theorem lo_128 {n i o b : Nat} (h7 : n ≤ 7) (hi : i < n) (ho : o < 2) (hb : b < 2 ^ n) : b ||| o * 2 ^ i < 128 := by
  have h1 : o * 2 ^ i < 2 ^ n := by
    have : 2 ^ i < 2 ^ n := Nat.pow_lt_pow_right (by decide) hi
    rcases (show o = 0 ∨ o = 1 by omega) with rfl | rfl <;> omega
  exact Nat.lt_of_lt_of_le (Nat.or_lt_two_pow hb h1) (p2_128 h7)
theorem e_lay_bits {st : XS} {n : Nat} {A B C : Nat → Int} (h : mL st n A B C) {i : Nat} (hi : i < n) (w : Bool) : xo_lp (fun q : (Int32 × Int32) => F_Mod_lay_b82 (zI (n : Int)) (zI (i : Int)) (zI (if w then 1 else 0)) st q.1 q.2) 1000000 ((0 : Int32), (0 : Int32)) = some (zI ((gy_b A B n i w : Nat) : Int)) := by
  have h7 := h.1
  unfold gy_b
  refine lp_run (fun k => (zI ((bm (fun s => decide (0 < (if w then -1 else 1) * gz_t A B (A i) (B i) s)) k : Nat) : Int), zI (k : Int))) n 1000000 (by omega) (fun k hk => ?_) ?_
  · unfold F_Mod_lay_b82
    dsimp only
    rw [if_neg (zI_ge1 (by omega) hk)]
    by_cases e : k = i
    · subst e
      rw [if_pos rfl, xo_nm_b, zI_suc, bm_suc_f (by rw [gz_t_self]; simp)]
    · rw [if_neg (by rw [zI_eq (zB_n (by omega)) (zB_n (by omega))]; omega)]
      have hm : ∀ v : Int32, v = zI (if w then 1 else 0) → F_Mod_lay_m108 (zI (n : Int)) (zI (i : Int)) (zI (if w then 1 else 0)) (zI ((bm (fun s => decide (0 < (if w then -1 else 1) * gz_t A B (A i) (B i) s)) k : Nat) : Int)) (zI (k : Int)) (zI (k : Int)) (zI (i : Int)) v st = some (Sum.inl (zI ((bm (fun s => decide (0 < (if w then -1 else 1) * gz_t A B (A i) (B i) s)) (k + 1) : Nat) : Int), zI ((k + 1 : Nat) : Int))) := by
        rintro v rfl
        unfold F_Mod_lay_m108
        rw [e_malong h hk hi w, Option.bind_some]
        by_cases hp : 0 < (if w then -1 else 1) * gz_t A B (A i) (B i) k
        · rw [if_neg (fun z => sg3_le.mp z hp), xo_nm_b, xo_nm_b, zI_suc, bm_suc_t (by omega) (decide_eq_true hp)]
        · rw [if_pos (sg3_le.mpr hp), xo_nm_b, zI_suc, bm_suc_f (decide_eq_false hp)]
      cases w with
      | true => rw [if_pos (show zI (if true = true then 1 else 0) = 1 from rfl)]; exact hm _ rfl
      | false => rw [if_neg (show ¬ zI (if false = true then 1 else 0) = 1 by decide)]; exact hm _ rfl
  · unfold F_Mod_lay_b82
    dsimp only
    rw [if_pos (zI_rfl _)]
theorem e_lay_own {st t : XS} {n : Nat} {A B : Nat → Int} {E : Nat → Bool} {p s m : Nat} (h7 : n ≤ 7) (h : yS st t E (fun _ => 0) p s m) {i : Nat} (hi : i < n) (w : Bool) (x1 x3 : Int32) : ∃ r, xo_lp (fun q : (Int32 × XS) => F_Mod_lay_b132 x1 (zI (i : Int)) x3 (zI ((gy_b A B n i w : Nat) : Int)) q.1 q.2) 1000000 ((0 : Int32), t) = some r ∧ yS st r (fun q => E q || gy_E1 A B n i w 2 q) (fun _ => 0) p s m := by
  refine lp_inv (fun (k : Nat) (x : Int32 × XS) => x.1 = zI (k : Int) ∧ yS st x.2 (fun q => E q || gy_E1 A B n i w k q) (fun _ => 0) p s m) _ 2 1000000 _ (by omega) ⟨rfl, yS_cong h (fun q _ => by unfold gy_E1; simp [an]) (fun _ _ => rfl)⟩ ?_ ?_
  · rintro k ⟨x, t2⟩ hk ⟨e1, e2⟩
    dsimp only at e1 e2 ⊢
    subst e1
    unfold F_Mod_lay_b132
    have hlt := lo_128 h7 hi hk (bm_lt (fun s => decide (0 < (if w then -1 else 1) * gz_t A B (A i) (B i) s)) n)
    have hb : gy_b A B n i w ||| k * 2 ^ i < 128 := hlt
    rw [if_neg (by rw [show (2 : Int32) = zI ((2 : Nat) : Int) from rfl]; exact zI_ge1 (by omega) hk), shl_own k hk i (by omega), zI_or, xo_nm_b, xo_ck_z hb (by decide), Option.bind_some, xo_nm_b, Option.bind_some, xo_nm_b, xo_nm_b, zI_suc, zI_cl (by omega), nar_1]
    refine ⟨_, rfl, rfl, ?_⟩
    have h3 := yS_put e2 (gy_b A B n i w ||| k * 2 ^ i)
    have e5 : (xs_A t2 18 (upd (t2.1 18) (gy_b A B n i w ||| k * 2 ^ i) 1)).1 19 = t2.1 19 := by simp [xs_A]
    rw [e5]
    refine yS_cong h3 (fun q _ => ?_) (fun _ _ => rfl)
    unfold gy_E1
    rw [an_suc, Bool.or_assoc]
  · rintro ⟨x, t2⟩ ⟨e1, e2⟩
    dsimp only at e1 e2 ⊢
    subst e1
    unfold F_Mod_lay_b132
    rw [if_pos (show (2 : Int32) ≤ zI ((2 : Nat) : Int) by decide)]
    exact ⟨_, rfl, e2⟩
theorem e_lay_way {st t : XS} {n : Nat} {A B C : Nat → Int} {E : Nat → Bool} {p s m : Nat} (hm : mL st n A B C) (h : yS st t E (fun _ => 0) p s m) {i : Nat} (hi : i < n) : ∃ r, xo_lp (fun q : (Int32 × XS) => F_Mod_lay_b71 (zI (n : Int)) (zI (i : Int)) q.1 q.2) 1000000 ((0 : Int32), t) = some r ∧ yS st r (fun q => E q || gy_E2 A B n i 2 q) (fun _ => 0) p s m := by
  refine lp_inv (fun (k : Nat) (x : Int32 × XS) => x.1 = zI (k : Int) ∧ yS st x.2 (fun q => E q || gy_E2 A B n i k q) (fun _ => 0) p s m) _ 2 1000000 _ (by omega) ⟨rfl, yS_cong h (fun q _ => by unfold gy_E2; simp [an]) (fun _ _ => rfl)⟩ ?_ ?_
  · rintro k ⟨x, t2⟩ hk ⟨e1, e2⟩
    dsimp only at e1 e2 ⊢
    subst e1
    unfold F_Mod_lay_b71
    have hw2 : zI (k : Int) = zI (if decide (k = 1) then 1 else 0) := by
      rcases (show k = 0 ∨ k = 1 by omega) with rfl | rfl <;> rfl
    have h1 := e_lay_bits (mL_u hm e2.1) hi (decide (k = 1))
    rw [← hw2] at h1
    obtain ⟨r, h2, h3⟩ := e_lay_own (A := A) (B := B) hm.1 e2 hi (decide (k = 1)) (zI (n : Int)) (zI (k : Int))
    rw [if_neg (by rw [show (2 : Int32) = zI ((2 : Nat) : Int) from rfl]; exact zI_ge1 (by omega) hk), h1, Option.bind_some, h2, Option.bind_some, xo_nm_b, zI_suc]
    refine ⟨_, rfl, rfl, yS_cong h3 (fun q _ => ?_) (fun _ _ => rfl)⟩
    unfold gy_E2
    rw [an_suc, Bool.or_assoc]
  · rintro ⟨x, t2⟩ ⟨e1, e2⟩
    dsimp only at e1 e2 ⊢
    subst e1
    unfold F_Mod_lay_b71
    rw [if_pos (show (2 : Int32) ≤ zI ((2 : Nat) : Int) by decide)]
    exact ⟨_, rfl, e2⟩
theorem e_lay_ends {st t : XS} {n : Nat} {A B C : Nat → Int} {p s m : Nat} (hm : mL st n A B C) (h : yS st t (gy_E A B n 0) (fun _ => 0) p s m) : ∃ r, xo_lp (fun q : (Int32 × XS) => F_Mod_lay_b64 (zI (n : Int)) q.1 q.2) 1000000 ((0 : Int32), t) = some r ∧ yS st r (gy_E A B n n) (fun _ => 0) p s m := by
  have h7 := hm.1
  refine lp_inv (fun (k : Nat) (x : Int32 × XS) => x.1 = zI (k : Int) ∧ yS st x.2 (gy_E A B n k) (fun _ => 0) p s m) _ n 1000000 _ (by omega) ⟨rfl, h⟩ ?_ ?_
  · rintro k ⟨x, t2⟩ hk ⟨e1, e2⟩
    dsimp only at e1 e2 ⊢
    subst e1
    unfold F_Mod_lay_b64
    obtain ⟨r, h2, h3⟩ := e_lay_way hm e2 hk
    rw [if_neg (zI_ge1 (by omega) hk), h2, Option.bind_some, xo_nm_b, zI_suc]
    refine ⟨_, rfl, rfl, yS_cong h3 (fun q _ => ?_) (fun _ _ => rfl)⟩
    unfold gy_E
    rw [an_suc, Bool.or_assoc]
  · rintro ⟨x, t2⟩ ⟨e1, e2⟩
    dsimp only at e1 e2 ⊢
    subst e1
    unfold F_Mod_lay_b64
    rw [if_pos (zI_rfl _)]
    exact ⟨_, rfl, e2⟩
theorem e_lay_zero {st t : XS} (h : lU st t) (hp : t.1 0 20 = zI 0) (hs : t.1 0 21 = zI 0) (hm : t.1 0 22 = zI 0) (x1 : Int32) : ∃ r, xo_lp (fun q : (Int32 × XS) => F_Mod_lay_b17 x1 q.1 q.2) 1000000 ((0 : Int32), t) = some r ∧ yS st r (fun _ => false) (fun _ => 0) 0 0 0 := by
  refine lp_inv (fun (k : Nat) (x : Int32 × XS) => x.1 = zI (k : Int) ∧ lU st x.2 ∧ (∀ q, q < k → x.2.1 18 q = zI 0 ∧ x.2.1 19 q = zI 0) ∧ x.2.1 0 20 = zI 0 ∧ x.2.1 0 21 = zI 0 ∧ x.2.1 0 22 = zI 0) _ 128 1000000 _ (by omega) ⟨rfl, h, fun q hq => absurd hq (Nat.not_lt_zero q), hp, hs, hm⟩ ?_ ?_
  · rintro k ⟨x, t2⟩ hk ⟨e1, e2, e3, e4, e5, e6⟩
    dsimp only at e1 e2 e3 e4 e5 e6 ⊢
    subst e1
    unfold F_Mod_lay_b17
    rw [if_neg (by rw [show (128 : Int32) = zI ((128 : Nat) : Int) from rfl]; exact zI_ge1 (by omega) hk), xo_ck_z hk (by decide), Option.bind_some, xo_nm_b, Option.bind_some, xo_nm_b, xo_nm_b, zI_suc, zI_cl (by omega), nar_0]
    refine ⟨_, rfl, rfl, lU_trans e2 ⟨rfl, fun k h0 h18 h19 => by simp [xs_A, h18, h19], fun j hj => by simp [xs_A]⟩, fun q hq => ?_, by simpa [xs_A] using e4, by simpa [xs_A] using e5, by simpa [xs_A] using e6⟩
    by_cases e : q = k
    · subst e
      simp [xs_A, upd]; rfl
    · simpa [xs_A, upd, e] using e3 q (by omega)
  · rintro ⟨x, t2⟩ ⟨e1, e2, e3, e4, e5, e6⟩
    dsimp only at e1 e2 e3 e4 e5 e6 ⊢
    subst e1
    unfold F_Mod_lay_b17
    rw [if_pos (show (128 : Int32) ≤ zI ((128 : Nat) : Int) by decide)]
    exact ⟨_, rfl, e2, fun q hq => e3 q hq, e4, e5, e6⟩
