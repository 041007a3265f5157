/-! a line that is thought of -/
def ex (A : Nat → Int) (n : Nat) (p : Int) (s : Nat) : Int := if s = n then p else A s
theorem ex_n (A : Nat → Int) (n : Nat) (p : Int) : ex A n p n = p := if_pos rfl
theorem ex_o {A : Nat → Int} {n s : Nat} (p : Int) (h : s < n) : ex A n p s = A s := if_neg (by omega)
theorem ex_t {A B : Nat → Int} {n s : Nat} {p q : Int} (u v : Int) (h : s < n) : gz_t (ex A n p) (ex B n q) u v s = gz_t A B u v s := by
  unfold gz_t; rw [ex_o p h, ex_o q h]
theorem ex_h {A B C : Nat → Int} {n s : Nat} {p q r : Int} (x y w : Int) (h : s < n) : gz_h (ex A n p) (ex B n q) (ex C n r) s x y w = gz_h A B C s x y w := by
  unfold gz_h; rw [ex_o p h, ex_o q h, ex_o r h]
theorem ex_hn {A B C : Nat → Int} {n : Nat} {p q r : Int} (x y w : Int) : gz_h (ex A n p) (ex B n q) (ex C n r) n x y w = p * x + q * y - r * w := by
  unfold gz_h; rw [ex_n, ex_n, ex_n]
theorem gz_t_anti (a b : Nat → Int) (i j : Nat) : gz_t a b (a i) (b i) j = -(gz_t a b (a j) (b j) i) := by unfold gz_t; grind
theorem ex_ok {A B : Nat → Int} {n : Nat} {p q : Int} (hok : gz_ok A B n) (hpq : p ≠ 0 ∨ q ≠ 0) (hne : ∀ t, t < n → gz_t A B p q t ≠ 0) : gz_ok (ex A n p) (ex B n q) (n + 1) := by
  refine ⟨fun s hs => ?_, fun i j hi hj hij => ?_⟩
  · by_cases e : s = n
    · subst e; rw [ex_n, ex_n]; exact hpq
    · rw [ex_o p (by omega), ex_o q (by omega)]; exact hok.1 s (by omega)
  · by_cases ei : i = n
    · subst ei
      rw [ex_n, ex_n, ex_t _ _ (by omega)]
      exact hne j (by omega)
    · by_cases ej : j = n
      · subst ej
        rw [gz_t_anti, ex_n, ex_n, ex_t _ _ (by omega)]
        have := hne i (by omega)
        omega
      · rw [ex_t _ _ (by omega), ex_o p (by omega), ex_o q (by omega)]
        exact hok.2 i j (by omega) (by omega) hij
theorem ex_gB {A B C : Nat → Int} {n : Nat} {p q r : Int} (h : gB A B C n) (hp : ab 9 p) (hq : ab 9 q) (hr : ab 99 r) : gB (ex A n p) (ex B n q) (ex C n r) (n + 1) := by
  intro s hs
  by_cases e : s = n
  · subst e; rw [ex_n, ex_n, ex_n]; exact ⟨hp, hq, hr⟩
  · rw [ex_o p (by omega), ex_o q (by omega), ex_o r (by omega)]; exact h s (by omega)
theorem or_bit {m n : Nat} (hm : m < 2 ^ n) (s : Nat) : (m ||| 2 ^ n).testBit s = if s = n then true else m.testBit s := by
  rw [Nat.testBit_or, Nat.testBit_two_pow]
  by_cases e : s = n
  · subst e; simp
  · have : ¬ n = s := fun z => e z.symm
    simp [e, this]
theorem cut_new {A B C : Nat → Int} {n : Nat} {p q r : Int} (h6 : n ≤ 6) (hok : gz_ok A B n) (hpq : p ≠ 0 ∨ q ≠ 0) (hne : ∀ t, t < n → gz_t A B p q t ≠ 0) {m : Nat} (hm : m < 2 ^ n) : (0 < gy_c (ex A n p) (ex B n q) (ex C n r) (n + 1) m ∧ 0 < gy_c (ex A n p) (ex B n q) (ex C n r) (n + 1) (m ||| 2 ^ n)) ↔ gc_K A B C p q r n n m = true := by
  have hok2 := ex_ok hok hpq hne
  have hm2 : m < 2 ^ (n + 1) := by rw [Nat.pow_succ]; omega
  have hor : m ||| 2 ^ n < 2 ^ (n + 1) := Nat.or_lt_two_pow hm2 (Nat.pow_lt_pow_right (by decide) (by omega))
  have hbn : m.testBit n = false := Nat.testBit_lt_two_pow hm
  rw [gy_c_pos (by omega) hok2, gy_c_pos (by omega) hok2, gc_K_iff, gz_new_iff hpq hne]
  constructor
  · rintro ⟨⟨-, x, y, w, hw, h1⟩, ⟨-, x2, y2, w2, hw2, h2⟩⟩
    refine ⟨hm, ⟨x, y, w, hw, ?_, fun s hs => ?_⟩, ⟨x2, y2, w2, hw2, ?_, fun s hs => ?_⟩⟩
    · have := h1 n (by omega) trivial
      rw [ex_hn, hbn] at this
      have h3 : ¬ 0 < p * x + q * y - r * w := fun z => by have := this.2.mpr z; cases this
      omega
    · have := h1 s (by omega) trivial
      rw [ex_h _ _ _ hs] at this
      exact this
    · have := h2 n (by omega) trivial
      rw [ex_hn, or_bit hm, if_pos rfl] at this
      exact this.2.mp rfl
    · have := h2 s (by omega) trivial
      rw [ex_h _ _ _ hs, or_bit hm, if_neg (by omega)] at this
      exact this
  · rintro ⟨-, ⟨x, y, w, hw, hl, h1⟩, ⟨x2, y2, w2, hw2, hl2, h2⟩⟩
    refine ⟨⟨hm2, x, y, w, hw, fun s hs _ => ?_⟩, ⟨hor, x2, y2, w2, hw2, fun s hs _ => ?_⟩⟩
    · by_cases e : s = n
      · subst e
        rw [ex_hn, hbn]
        exact ⟨by omega, fun z => (by cases z), fun z => (by omega)⟩
      · rw [ex_h _ _ _ (by omega)]
        exact h1 s (by omega)
    · by_cases e : s = n
      · subst e
        rw [ex_hn, or_bit hm, if_pos rfl]
        exact ⟨by omega, fun _ => hl2, fun _ => rfl⟩
      · rw [ex_h _ _ _ (by omega), or_bit hm, if_neg e]
        exact h2 s (by omega)
theorem e_think {st : XS} {n : Nat} {A B C : Nat → Int} {p q r : Int} (h6 : n ≤ 6) (hm : mL st n A B C) (hn : st.1 0 0 = zI (n : Int)) (hp : ab 9 p) (hq : ab 9 q) (hr : ab 99 r) : ∃ t, F_Mod_think (zI p) (zI q) (zI r) st = some t ∧ mS n st t ∧ mL t (n + 1) (ex A n p) (ex B n q) (ex C n r) := by
  unfold F_Mod_think
  rw [hn, xo_ck_z (show n < 7 by omega) (by decide), Option.bind_some, xo_nm_b, zI_cl (by omega)]
  have e1 : ∀ f : Nat → Int32, (xs_A st 2 f).1 0 0 = zI (n : Int) := fun f => by rw [xs_A_n (by decide), hn]
  rw [e1, xo_ck_z (show n < 7 by omega) (by decide), Option.bind_some, xo_nm_b, zI_cl (by omega)]
  have e2 : ∀ f g : Nat → Int32, (xs_A (xs_A st 2 f) 3 g).1 0 0 = zI (n : Int) := fun f g => by rw [xs_A_n (by decide), e1]
  rw [e2, xo_ck_z (show n < 7 by omega) (by decide), Option.bind_some, xo_nm_b, zI_cl (by omega)]
  have e3 : ∀ f : Nat → Int32, (xs_A st 2 f).1 3 = st.1 3 := fun f => xs_A_n (by decide)
  have e4 : ∀ f g : Nat → Int32, (xs_A (xs_A st 2 f) 3 g).1 4 = st.1 4 := fun f g => by rw [xs_A_n (by decide), xs_A_n (by decide)]
  rw [e3, e4]
  generalize ht : xs_A (xs_A (xs_A st 2 (upd (st.1 2) n (zI p))) 3 (upd (st.1 3) n (zI q))) 4 (upd (st.1 4) n (zI r)) = t
  have t2 : t.1 2 = upd (st.1 2) n (zI p) := by rw [← ht, xs_A_n (by decide), xs_A_n (by decide), xs_A_e]
  have t3 : t.1 3 = upd (st.1 3) n (zI q) := by rw [← ht, xs_A_n (by decide), xs_A_e]
  have t4 : t.1 4 = upd (st.1 4) n (zI r) := by rw [← ht, xs_A_e]
  have to : ∀ k, k ≠ 2 → k ≠ 3 → k ≠ 4 → t.1 k = st.1 k := fun k h2 h3 h4 => by rw [← ht, xs_A_n h4, xs_A_n h3, xs_A_n h2]
  refine ⟨t, rfl, ⟨fun k hk => to k (by omega) (by omega) (by omega), fun j _ => by rw [to 0 (by omega) (by omega) (by omega)], fun s hs => ?_⟩, by omega, fun s hs => ?_, ex_gB hm.2.2 hp hq hr⟩
  · rw [t2, t3, t4, upd_n (by omega), upd_n (by omega), upd_n (by omega)]
    exact ⟨rfl, rfl, rfl⟩
  · rw [t2, t3, t4]
    by_cases e : s = n
    · subst e
      rw [upd_e, upd_e, upd_e, ex_n, ex_n, ex_n]
      exact ⟨rfl, rfl, rfl⟩
    · rw [upd_n e, upd_n e, upd_n e, ex_o p (by omega), ex_o q (by omega), ex_o r (by omega)]
      exact hm.2.1 s (by omega)
/-- the line is thought of, and all laid with it -/
theorem e_thlay {st : XS} {n : Nat} {A B C : Nat → Int} {p q r : Int} (h6 : n ≤ 6) (hm : mL st n A B C) (hn : st.1 0 0 = zI (n : Int)) (hp : ab 9 p) (hq : ab 9 q) (hr : ab 99 r) : ∃ t1 t, F_Mod_think (zI p) (zI q) (zI r) st = some t1 ∧ F_Mod_lay ((t1.1 0 0) + (1 : Int32)) t1 = some t ∧ mS n st t ∧ ∀ q', q' < 128 → t.1 18 q' = zI ((gy_c (ex A n p) (ex B n q) (ex C n r) (n + 1) q' : Nat) : Int) := by
  obtain ⟨t1, g1, g2, g3⟩ := e_think h6 hm hn hp hq hr
  obtain ⟨t, k1, k2⟩ := e_layL g3
  have e : (t1.1 0 0) + (1 : Int32) = zI ((n + 1 : Nat) : Int) := by rw [g2.2.1 0 (by omega), hn, zI_suc]
  exact ⟨t1, t, g1, by rw [e]; exact k1, mS_trans g2 (mS_u k2.1), fun q' hq' => (k2.2.1 q' hq').1⟩
theorem e_cuts {t : XS} {n : Nat} {A B C : Nat → Int} {p q r : Int} (h6 : n ≤ 6) (hok : gz_ok A B n) (hpq : p ≠ 0 ∨ q ≠ 0) (hne : ∀ t, t < n → gz_t A B p q t ≠ 0) (hn : t.1 0 0 = zI (n : Int)) (h : ∀ q', q' < 128 → t.1 18 q' = zI ((gy_c (ex A n p) (ex B n q) (ex C n r) (n + 1) q' : Nat) : Int)) {m : Nat} (hm : m < 2 ^ n) : F_Mod_cuts (zI (m : Int)) t = some (zI (if gc_K A B C p q r n n m = true then 1 else 0)) := by
  have h64 := p2_64 h6
  have hor : m ||| 2 ^ n < 128 := by
    have hm2 : m < 2 ^ (n + 1) := by rw [Nat.pow_succ]; omega
    have : m ||| 2 ^ n < 2 ^ (n + 1) := Nat.or_lt_two_pow hm2 (Nat.pow_lt_pow_right (by decide) (by omega))
    have := p2_128 (show n + 1 ≤ 7 by omega)
    omega
  have hc := cut_new (C := C) (r := r) h6 hok hpq hne hm
  have l1 := gy_c_le (ex A n p) (ex B n q) (ex C n r) (show n + 1 ≤ 7 by omega) m
  have l2 := gy_c_le (ex A n p) (ex B n q) (ex C n r) (show n + 1 ≤ 7 by omega) (m ||| 2 ^ n)
  unfold F_Mod_cuts
  rw [xo_rd_z (show m < 128 by omega) (by decide), Option.bind_some, h m (by omega), hn, zI_bit n (by omega), zI_or, xo_rd_z hor (by decide), Option.bind_some, h _ hor]
  by_cases c1 : 0 < gy_c (ex A n p) (ex B n q) (ex C n r) (n + 1) m
  · rw [if_neg (by rw [zI_0, zI_le (zB_n (by omega)) (by decide)]; omega)]
    by_cases c2 : 0 < gy_c (ex A n p) (ex B n q) (ex C n r) (n + 1) (m ||| 2 ^ n)
    · rw [if_neg (by rw [zI_0, zI_le (zB_n (by omega)) (by decide)]; omega), if_pos (hc.mp ⟨c1, c2⟩)]; rfl
    · rw [if_pos (by rw [zI_0, zI_le (zB_n (by omega)) (by decide)]; omega), if_neg (fun z => c2 (hc.mpr z).2)]; rfl
  · rw [if_pos (by rw [zI_0, zI_le (zB_n (by omega)) (by decide)]; omega), if_neg (fun z => c1 (hc.mpr z).1)]; rfl
theorem e_whyNew {st : XS} {n : Nat} {A B C : Nat → Int} (h : cL st n A B C) {a b c : Int} (ha : zB a) (hb : zB b) (hc : zB c) : F_All_whyNoNewLine (zI a) (zI b) (zI c) st = some (zI (if gwhy a b c = 0 then (if an (fun s => decide (gz_t A B a b s = 0)) n = true then -3 else 0) else gwhy a b c)) := by
  unfold F_All_whyNoNewLine
  rw [e_why ha hb hc, Option.bind_some]
  by_cases h0 : gwhy a b c = 0
  · obtain ⟨h9, h9', -, -⟩ := gwhy_0 h0
    rw [h0, if_pos (show zI 0 = 0 from rfl), if_pos rfl, e_hasDir h h9 h9', Option.bind_some]
    by_cases hd : an (fun s => decide (gz_t A B a b s = 0)) n = true
    · rw [if_pos hd, if_pos hd, if_neg (by decide)]; rfl
    · rw [if_neg hd, if_neg hd, if_pos (show zI 0 = 0 from rfl)]
  · have : ¬ zI (gwhy a b c) = (0 : Int32) := by
      rcases gwhy_or a b c with e | e | e | e <;> rw [e] at h0 ⊢
      · decide
      · decide
      · decide
      · exact absurd rfl h0
    rw [if_neg this, if_neg h0]
theorem an_dir {A B : Nat → Int} {n : Nat} {a b : Int} (h : ¬ an (fun s => decide (gz_t A B a b s = 0)) n = true) : ∀ t, t < n → gz_t A B a b t ≠ 0 := fun t ht hz => h (an_iff.mpr ⟨t, ht, by simp [hz]⟩)
