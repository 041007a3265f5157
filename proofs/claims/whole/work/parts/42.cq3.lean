/-! the class: all quarters, where plots lie, streets taken up -/
theorem ls_sm_le (P : Nat × Nat → Bool) : ∀ L : List (Nat × Nat), ls_sm (fun x => if P x then 1 else 0) L ≤ L.length
  | [] => Nat.le_refl 0
  | x :: l => by
    have h := ls_sm_le P l
    rw [ls_sm, List.length_cons]
    split <;> omega
theorem zI_64 : (64 : Int32) = zI ((64 : Nat) : Int) := rfl
theorem cnt_if {α : Type} {c : Prop} [Decidable c] {p : Bool} (h : c ↔ p = true) (a b : α) : (if c then a else b) = if p = true then a else b := by
  by_cases hc : c
  · rw [if_pos hc, if_pos (h.mp hc)]
  · rw [if_neg hc, if_neg (fun z => hc (h.mpr z))]
theorem e_whole {st : XS} {n : Nat} {A B C : Nat → Int} {Q : Nat → Bool} (h : cL st n A B C) (hQ : st.2 0 = lS Q) : F_All_whole st = some (zI ((fb_ct (fun q => Q q && decide (fb_ct (fun s => Q (q ^^^ 2 ^ s)) n = n)) 64 : Nat) : Int)) := by
  have h6 := h.2.1
  unfold F_All_whole
  rw [lp_cnt (fun q => Q q && decide (fb_ct (fun s => Q (q ^^^ 2 ^ s)) n = n)) 64 (by omega) (fun k c hk => ?_) (fun c => ?_)]
  · unfold F_All_whole_b4
    dsimp only
    rw [zI_64, if_neg (zI_ge1 (by omega) hk), e_hasQn hQ hk, Option.bind_some]
    by_cases hq : Q k = true
    · have hle := fb_ct_le (fun s => Q (k ^^^ 2 ^ s)) n
      rw [if_pos hq, if_neg (by decide), e_sidesOf h hQ hk, Option.bind_some, h.1, hq, Bool.true_and, xo_nm_b, xo_nm_b, xo_nm_b, zI_suc, zI_suc]
      by_cases hc : fb_ct (fun s => Q (k ^^^ 2 ^ s)) n = n
      · rw [if_pos (by rw [hc]), if_pos (decide_eq_true hc)]
      · rw [if_neg (by rw [zI_eq (zB_n (by omega)) (zB_n (by omega)), Int.ofNat_inj]; exact hc), if_neg (by simpa using hc)]; rfl
    · rw [if_neg hq, if_pos (show zI 0 = 0 from rfl), xo_nm_b, zI_suc, if_neg (by simp [hq])]; rfl
  · unfold F_All_whole_b4
    dsimp only
    rw [zI_64, if_pos (zI_rfl _)]
theorem e_with {st : XS} {n : Nat} {A B C : Nat → Int} {Q : Nat → Bool} (h6 : n ≤ 6) (hP : gP A B C n st (gp_ls A B C n n)) (hQ : st.2 0 = lS Q) {w : Nat} (hw : w ≤ 12) : F_All_with (zI (w : Int)) st = some (zI ((fb_ct (fun q => Q q && decide (ls_sm (fun x => if gp_g A B C n q x then 1 else 0) (gp_ls A B C n n) = w)) 64 : Nat) : Int), st) := by
  have h15 := gp_ls_15 A B C h6
  unfold F_All_with
  have e12 : (12 : Int32) = zI ((12 : Nat) : Int) := rfl
  rw [zI_0, if_pos (by rw [zI_le (by decide) (zB_n (by omega))]; omega), e12, if_pos (by rw [zI_le (zB_n (by omega)) (by decide)]; omega)]
  rw [show zI 0 = (0 : Int32) from rfl, lp_cnt (fun q => Q q && decide (ls_sm (fun x => if gp_g A B C n q x then 1 else 0) (gp_ls A B C n n) = w)) 64 (by omega) (fun k c hk => ?_) (fun c => ?_)]
  · unfold F_All_with_b28
    dsimp only
    rw [zI_64, if_neg (zI_ge1 (by omega) hk), e_hasQn hQ hk, Option.bind_some]
    by_cases hq : Q k = true
    · have hle := ls_sm_le (gp_g A B C n k) (gp_ls A B C n n)
      rw [if_pos hq, if_neg (by decide), e_corners h6 hP hk, Option.bind_some, hq, Bool.true_and, xo_nm_b, xo_nm_b, xo_nm_b, zI_suc, zI_suc]
      by_cases hc : ls_sm (fun x => if gp_g A B C n k x then 1 else 0) (gp_ls A B C n n) = w
      · rw [if_pos (by rw [hc]), if_pos (decide_eq_true hc)]
      · rw [if_neg (by rw [zI_eq (zB_n (by omega)) (zB_n (by omega)), Int.ofNat_inj]; exact hc), if_neg (by simpa using hc)]; rfl
    · rw [if_neg hq, if_pos (show zI 0 = 0 from rfl), xo_nm_b, zI_suc, if_neg (by simp [hq])]; rfl
  · unfold F_All_with_b28
    dsimp only
    rw [zI_64, if_pos (zI_rfl _)]
/-- where a point lies: the number, or -9 -/
def gw_z (A B C : Nat → Int) (n : Nat) (x y : Int) : Bool := an (fun s => decide (gz_h A B C s x y 1 = 0)) n
def gw_b (A B C : Nat → Int) (n : Nat) (x y : Int) : Nat := bm (fun s => decide (0 < gz_h A B C s x y 1)) n
def gw (A B C : Nat → Int) (n : Nat) (x y : Int) : Int := if gw_z A B C n x y = true then -9 else (gw_b A B C n x y : Int)
theorem gw_b_lt {A B C : Nat → Int} {n : Nat} (h6 : n ≤ 6) (x y : Int) : gw_b A B C n x y < 64 := Nat.lt_of_lt_of_le (bm_lt _ n) (p2_64 h6)
theorem gw_B {A B C : Nat → Int} {n : Nat} (h6 : n ≤ 6) (x y : Int) : zB (gw A B C n x y) := by
  have := gw_b_lt (A := A) (B := B) (C := C) h6 x y
  unfold gw
  split <;> constructor <;> omega
theorem bm_z {P : Nat → Bool} {n : Nat} : bm P n = 0 ↔ an P n = false := by
  constructor
  · intro h
    rw [Bool.eq_false_iff, Ne, an_iff]
    rintro ⟨s, hs, hp⟩
    have := bm_tb P n s
    rw [h, Nat.zero_testBit, hp] at this
    simp [hs] at this
  · intro h
    rw [Bool.eq_false_iff, Ne, an_iff] at h
    apply Nat.eq_of_testBit_eq
    intro i
    rw [bm_tb, Nat.zero_testBit]
    by_cases hi : i < n
    · have : ¬ P i = true := fun z => h ⟨i, hi, z⟩
      simp [this]
    · simp [hi]
theorem e_qAt {st : XS} {n : Nat} {A B C : Nat → Int} (h : cL st n A B C) {x y : Int} (hx : ab 20 x) (hy : ab 20 y) : F_Pla_quarterAt (zI x) (zI y) st = some (zI (gw A B C n x y)) := by
  have h6 := h.2.1
  unfold F_Pla_quarterAt
  have hx2 : ab 1782 x := by unfold ab at *; omega
  have hy2 : ab 1782 y := by unfold ab at *; omega
  rw [zI_1, e_through h hx2 hy2 (by unfold ab; decide), Option.bind_some, e_sides h hx2 hy2 (by unfold ab; decide), Option.bind_some]
  have hb : bm (fun s => decide (gz_h A B C s x y 1 = 0)) n < 64 := Nat.lt_of_lt_of_le (bm_lt _ n) (p2_64 h6)
  unfold gw
  by_cases hc : gw_z A B C n x y = true
  · rw [if_neg (by rw [zI_0, zI_eq (zB_n (by omega)) (by decide)]; intro z; have := (bm_z (P := fun s => decide (gz_h A B C s x y 1 = 0)) (n := n)).mp (by omega); unfold gw_z at hc; rw [hc] at this; cases this), if_pos hc]; rfl
  · have hz := (bm_z (P := fun s => decide (gz_h A B C s x y 1 = 0)) (n := n)).mpr (by unfold gw_z at hc; simpa using hc)
    rw [if_pos (by rw [hz]; rfl), if_neg hc]; rfl
/-- the plots of a town -/
def pL (st : XS) (P : Nat) (X Y : Nat → Int) : Prop := st.1 1 7 = zI (P : Int) ∧ P ≤ 8 ∧ ∀ p, p < P → st.1 6 p = zI (X p) ∧ st.1 7 p = zI (Y p) ∧ ab 20 (X p) ∧ ab 20 (Y p)
theorem e_hasPlot {st : XS} {P : Nat} {X Y : Nat → Int} (h : pL st P X Y) {x : Int} (hx : zB x) : F_Tow_hasPlot (zI x) st = some (zI (if 0 ≤ x ∧ x < (P : Int) then 1 else 0)) := by
  have h8 := h.2.1
  unfold F_Tow_hasPlot
  rw [zI_0, h.1]
  by_cases h1 : x < 0
  · rw [if_pos ((zI_lt hx (by decide)).mpr h1), if_neg (by omega)]
  · rw [if_neg (by rw [zI_lt hx (by decide)]; exact h1)]
    by_cases h2 : (P : Int) ≤ x
    · rw [if_pos ((zI_le (zB_n (by omega)) hx).mpr h2), if_neg (by omega)]
    · rw [if_neg (by rw [zI_le (zB_n (by omega)) hx]; exact h2), if_pos (by omega)]; rfl
theorem e_hasStreet {st : XS} {n : Nat} {A B C : Nat → Int} (h : cL st n A B C) {x : Int} (hx : zB x) : F_Tow_hasStreet (zI x) st = some (zI (if 0 ≤ x ∧ x < (n : Int) then 1 else 0)) := by
  have h8 := h.2.1
  unfold F_Tow_hasStreet
  rw [zI_0, h.1]
  by_cases h1 : x < 0
  · rw [if_pos ((zI_lt hx (by decide)).mpr h1), if_neg (by omega)]
  · rw [if_neg (by rw [zI_lt hx (by decide)]; exact h1)]
    by_cases h2 : (n : Int) ≤ x
    · rw [if_pos ((zI_le (zB_n (by omega)) hx).mpr h2), if_neg (by omega)]
    · rw [if_neg (by rw [zI_le (zB_n (by omega)) hx]; exact h2), if_pos (by omega)]; rfl
theorem e_qPlot {st : XS} {n P : Nat} {A B C X Y : Nat → Int} (h : cL st n A B C) (g : pL st P X Y) {p : Nat} (hp : p < P) : F_Pla_quarterOfPlot (zI (p : Int)) st = some (zI (gw A B C n (X p) (Y p))) := by
  have h8 := g.2.1
  obtain ⟨g1, g2, g3, g4⟩ := g.2.2 p hp
  unfold F_Pla_quarterOfPlot
  rw [e_hasPlot g (zB_n (by omega)), Option.bind_some, if_pos (show (0 : Int) ≤ (p : Int) ∧ (p : Int) < (P : Int) from ⟨by omega, by omega⟩), if_neg (by decide), xo_rd_z (by omega) (by decide), Option.bind_some, xo_rd_z (by omega) (by decide), Option.bind_some, g1, g2, e_qAt h g3 g4]; rfl
theorem e_hasDir {st : XS} {n : Nat} {A B C : Nat → Int} (h : cL st n A B C) {p q : Int} (hp : ab 9 p) (hq : ab 9 q) : F_Tow_hasDirection_v1 (zI p) (zI q) st = some (zI (if an (fun s => decide (gz_t A B p q s = 0)) n = true then 1 else 0)) := by
  have h6 := h.2.1
  unfold F_Tow_hasDirection_v1
  rw [lp_find (fun s => decide (gz_t A B p q s = 0)) (.inl ()) (.inr ()) n (by omega) (fun k hk => ?_) ?_]
  · rw [Option.bind_some]
    split <;> rfl
  · unfold F_Tow_hasDirection_v1_b2
    rw [h.1, if_pos (zI_rfl _)]
  · unfold F_Tow_hasDirection_v1_b2
    rw [h.1, if_neg (zI_ge1 (by omega) hk), e_turn h p q hk, Option.bind_some, xo_nm_b, zI_suc, zI_0]
    exact cnt_if (by rw [zI_eq (ab_B (gt_ab h.2.2.2 hp hq hk) (by decide)) (by decide), decide_eq_true_eq]) _ _
theorem e_hasPlotOn {st : XS} {P : Nat} {X Y : Nat → Int} (g : pL st P X Y) {p q r : Int} (hp : ab 9 p) (hq : ab 9 q) (hr : ab 99 r) : F_Tow_hasPlotOn (zI p) (zI q) (zI r) st = some (zI (if an (fun k => decide (p * X k + q * Y k = r)) P = true then 1 else 0)) := by
  have h8 := g.2.1
  unfold F_Tow_hasPlotOn
  rw [lp_find (fun k => decide (p * X k + q * Y k = r)) (.inl ()) (.inr ()) P (by omega) (fun k hk => ?_) ?_]
  · rw [Option.bind_some]
    split <;> rfl
  · unfold F_Tow_hasPlotOn_b3
    rw [g.1, if_pos (zI_rfl _)]
  · unfold F_Tow_hasPlotOn_b3
    obtain ⟨g1, g2, g3, g4⟩ := g.2.2 k hk
    rw [g.1, if_neg (zI_ge1 (by omega) hk), xo_rd_z (by omega) (by decide), Option.bind_some, xo_rd_z (by omega) (by decide), Option.bind_some, g1, g2, zI_mul, zI_mul, zI_add, xo_nm_b, zI_suc]
    exact cnt_if (by rw [zI_eq (ab_B (ab_add (ab_mul hp g3) (ab_mul hq g4)) (by decide)) (ab_B hr (by decide)), decide_eq_true_eq]) _ _
