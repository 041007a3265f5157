/-! lamps -/
def gl_p (A B C : Nat → Int) (n s : Nat) (g : Bool) (x : Nat × Nat) : Nat := if gz_p A B C x.1 x.2 s = 0 ∧ (g = true → 3 ≤ gp_th A B C n x) then 1 else 0
def yf_p (A B C : Nat → Int) (n s : Nat) (g : Bool) (i j : Nat) : Nat := if gp_f A B C i j = true then gl_p A B C n s g (i, j) else 0
theorem fS_p (A B C : Nat → Int) (n s : Nat) (g : Bool) : fS (yf_p A B C n s g) n 0 = ls_sm (gl_p A B C n s g) (gp_ls A B C n n) := by
  rw [ls_sm_pr, ← fS_pr]; rfl
theorem e_mpt {st : XS} {n : Nat} {A B C : Nat → Int} (hm : mL st n A B C) (hn : st.1 0 0 = zI (n : Int)) {i j s c : Nat} (hij : i < j) (hj : j < n) (x1 x4 : Int32) (h4 : x4 = zI (j : Int)) (g : Bool) (hz : gz_p A B C i j s = 0) (hf : gp_f A B C i j = true) : F_Mod_pointsOf_m62 x1 (zI (if g then 1 else 0)) (zI (c : Int)) x4 (zI (i : Int)) st = some (.inl (zI ((c + yf_p A B C n s g i j : Nat) : Int), zI ((i + 1 : Nat) : Int))) := by
  subst h4
  have h7 := hm.1
  have htl := gp_th_le A B C n (i, j)
  unfold F_Mod_pointsOf_m62
  rw [lp_cnt (fun k => decide (gz_p A B C i j k = 0)) n (by omega) (fun k c hk => ?_) (fun c => ?_)]
  · have e : fb_ct (fun k => decide (gz_p A B C i j k = 0)) n = gp_th A B C n (i, j) := rfl
    have ey : yf_p A B C n s g i j = gl_p A B C n s g (i, j) := if_pos hf
    simp only [e, ey, xo_nm_b, zI_suc]
    unfold gl_p
    cases g with
    | false =>
      rw [if_pos (show zI (if false = true then 1 else 0) = 0 from rfl), if_pos ⟨hz, fun q => by cases q⟩]
    | true =>
      rw [if_neg (show ¬ zI (if true = true then 1 else 0) = 0 by decide)]
      have e2 : (2 : Int32) = zI 2 := rfl
      by_cases h3 : 3 ≤ gp_th A B C n (i, j)
      · rw [e2, if_neg (by rw [zI_le (zB_n (by omega)) (by decide)]; omega), if_pos ⟨hz, fun _ => h3⟩]
      · rw [e2, if_pos (by rw [zI_le (zB_n (by omega)) (by decide)]; omega), if_neg (fun q => h3 (q.2 rfl))]; rfl
  · unfold F_Mod_pointsOf_b68
    dsimp only
    rw [hn, if_neg (zI_ge1 (by omega) hk)]
    simp only [xo_nm_b, zI_suc]
    by_cases e1 : k = i
    · subst e1
      rw [if_pos rfl, gz_p_i, if_pos (by decide)]
    · rw [if_neg (by rw [zI_eq (zB_n (by omega)) (zB_n (by omega))]; omega)]
      by_cases e2 : k = j
      · subst e2
        rw [if_pos rfl, gz_p_j, if_pos (by decide)]
      · rw [if_neg (by rw [zI_eq (zB_n (by omega)) (zB_n (by omega))]; omega), e_msoc hm hk (by omega) hj, Option.bind_some]
        by_cases hzk : gz_p A B C i j k = 0
        · rw [if_pos (sg3_z.mpr hzk), if_pos (decide_eq_true hzk)]
        · rw [if_neg (fun z => hzk (sg3_z.mp z)), if_neg (by simpa using hzk)]; rfl
  · unfold F_Mod_pointsOf_b68
    dsimp only
    rw [hn, if_pos (zI_rfl _)]
theorem e_mpair {st : XS} {n : Nat} {A B C : Nat → Int} (hm : mL st n A B C) (hn : st.1 0 0 = zI (n : Int)) {i j s c : Nat} (hij : i < j) (hj : j < n) (hs : s < n) (g : Bool) : F_Mod_pointsOf_b17 (zI (s : Int)) (zI (if g then 1 else 0)) (zI (j : Int)) st (zI (c : Int)) (zI (i : Int)) = some (.inl (zI ((c + yf_p A B C n s g i j : Nat) : Int), zI ((i + 1 : Nat) : Int))) := by
  have h7 := hm.1
  unfold F_Mod_pointsOf_b17
  rw [if_neg (zI_ge1 (by omega) hij), e_misFirst hm hij hj, Option.bind_some]
  by_cases hf : gp_f A B C i j = true
  · rw [if_pos hf, if_neg (by decide)]
    by_cases e1 : i = s
    · subst e1
      rw [if_pos rfl]
      exact e_mpt hm hn hij hj _ _ rfl g (gz_p_i A B C i j) hf
    · rw [if_neg (by rw [zI_eq (zB_n (by omega)) (zB_n (by omega))]; omega)]
      by_cases e2 : j = s
      · subst e2
        rw [if_pos rfl]
        exact e_mpt hm hn hij hj _ _ rfl g (gz_p_j A B C i j) hf
      · rw [if_neg (by rw [zI_eq (zB_n (by omega)) (zB_n (by omega))]; omega), e_msoc hm hs (by omega) hj, Option.bind_some]
        by_cases hz : gz_p A B C i j s = 0
        · rw [if_pos (sg3_z.mpr hz)]
          exact e_mpt hm hn hij hj _ _ rfl g hz hf
        · rw [if_neg (fun z => hz (sg3_z.mp z)), xo_nm_b, zI_suc]
          have ey : yf_p A B C n s g i j = 0 := by
            unfold yf_p gl_p
            rw [if_pos hf, if_neg (fun z => hz z.1)]
          rw [ey]; rfl
  · rw [if_neg hf, if_pos (show zI 0 = 0 from rfl), xo_nm_b, zI_suc]
    have ey : yf_p A B C n s g i j = 0 := if_neg hf
    rw [ey]; rfl
theorem e_mpointsOf {st : XS} {n : Nat} {A B C : Nat → Int} (hm : mL st n A B C) (hn : st.1 0 0 = zI (n : Int)) {s : Nat} (hs : s < n) (g : Bool) : F_Mod_pointsOf (zI (s : Int)) (zI (if g then 1 else 0)) st = some (zI ((ls_sm (gl_p A B C n s g) (gp_ls A B C n n) : Nat) : Int)) := by
  have h7 := hm.1
  rw [← fS_p]
  unfold F_Mod_pointsOf
  refine (lp_go (fun j => (zI ((fS (yf_p A B C n s g) j 0 : Nat) : Int), zI (j : Int))) n (zI ((fS (yf_p A B C n s g) n 0 : Nat) : Int)) (by rfl) (by omega) (fun j hj => ?_) ?_).trans rfl
  · unfold F_Mod_pointsOf_b5
    dsimp only
    rw [hn, if_neg (zI_ge1 (by omega) hj)]
    rw [lp_go (fun i => (zI ((fS (yf_p A B C n s g) j i : Nat) : Int), zI (i : Int))) j (zI ((fS (yf_p A B C n s g) j j : Nat) : Int)) (by rfl) (by omega) (fun i hi => ?_) ?_]
    · rw [xo_nm_b, zI_suc, fS_j]
    · unfold F_Mod_pointsOf_b17
      dsimp only
      rw [if_pos (zI_rfl _)]
    · dsimp only
      rw [e_mpair hm hn hi hj hs g, fS_i]
  · unfold F_Mod_pointsOf_b5
    dsimp only
    rw [hn, if_pos (zI_rfl _)]
theorem ls_sm_mul (c : Nat) (w : Nat × Nat → Nat) : ∀ L : List (Nat × Nat), ls_sm (fun x => c * w x) L = c * ls_sm w L
  | [] => rfl
  | x :: l => by rw [ls_sm, ls_sm, ls_sm_mul c w l, Nat.mul_add]
theorem ls_sm_add (u w : Nat × Nat → Nat) : ∀ L : List (Nat × Nat), ls_sm (fun x => u x + w x) L = ls_sm u L + ls_sm w L
  | [] => rfl
  | x :: l => by rw [ls_sm, ls_sm, ls_sm, ls_sm_add u w l]; omega
theorem gl_p_f (A B C : Nat → Int) (n s : Nat) (x : Nat × Nat) : gl_p A B C n s false x = if gz_p A B C x.1 x.2 s = 0 then 1 else 0 := by
  unfold gl_p
  by_cases h : gz_p A B C x.1 x.2 s = 0
  · rw [if_pos ⟨h, fun q => by cases q⟩, if_pos h]
  · rw [if_neg (fun q => h q.1), if_neg h]
/-- one kind's lamp, but for the grand ones -/
def gl_1 (n k s : Nat) : Nat := if k = 0 then 1 else if k = 1 then 2 else if k = 2 then 0 else if k = 4 then 1 + s else if s + 1 = n then 7 else 0
theorem gl_x_1 {A B C : Nat → Int} {n k s : Nat} (hk : k < 6) (h3 : k ≠ 3) (L : List (Nat × Nat)) : ls_sm (gl_x A B C n k s) L = gl_1 n k s * ls_sm (gl_p A B C n s false) L := by
  rw [← ls_sm_mul]
  apply ls_sm_cong
  intro x _
  rw [gl_p_f]
  unfold gl_x gl_w gl_1
  by_cases hz : gz_p A B C x.1 x.2 s = 0
  · rw [if_pos hz, if_pos hz, Nat.mul_one]
    rcases (show k = 0 ∨ k = 1 ∨ k = 2 ∨ k = 4 ∨ k = 5 by omega) with rfl | rfl | rfl | rfl | rfl <;> rfl
  · rw [if_neg hz, if_neg hz, Nat.mul_zero]
theorem gl_x_3 {A B C : Nat → Int} {n s : Nat} (L : List (Nat × Nat)) : ls_sm (gl_x A B C n 3 s) L = 2 * ls_sm (gl_p A B C n s false) L + 5 * ls_sm (gl_p A B C n s true) L := by
  rw [← ls_sm_mul, ← ls_sm_mul, ← ls_sm_add]
  apply ls_sm_cong
  intro x _
  rw [gl_p_f]
  unfold gl_x gl_w gl_p
  by_cases hz : gz_p A B C x.1 x.2 s = 0 <;> by_cases h3 : 3 ≤ gp_th A B C n x <;> simp [hz, h3]
theorem zI_muln (a b : Nat) (x : Int32) (hx : x = zI (a : Int)) : x * zI (b : Int) = zI ((a * b : Nat) : Int) := by rw [hx, zI_mul]; rfl
theorem e_mlampsOf {st : XS} {n : Nat} {A B C : Nat → Int} (hm : mL st n A B C) (hn : st.1 0 0 = zI (n : Int)) {s k : Nat} (hs : s < n) (hk : st.1 1 s = zI (k : Int)) (hk6 : k < 6) : F_Mod_lampsOf (zI (s : Int)) st = some (zI ((ls_sm (gl_x A B C n k s) (gp_ls A B C n n) : Nat) : Int)) := by
  have h7 := hm.1
  have hf : F_Mod_pointsOf (zI (s : Int)) (0 : Int32) st = some (zI ((ls_sm (gl_p A B C n s false) (gp_ls A B C n n) : Nat) : Int)) := e_mpointsOf hm hn hs false
  have ht : F_Mod_pointsOf (zI (s : Int)) (1 : Int32) st = some (zI ((ls_sm (gl_p A B C n s true) (gp_ls A B C n n) : Nat) : Int)) := e_mpointsOf hm hn hs true
  unfold F_Mod_lampsOf
  rw [hf, ht, Option.bind_some, Option.bind_some, xo_rd_z (show s < 7 by omega) (by decide), Option.bind_some, hk, hn]
  by_cases h3 : k = 3
  · subst h3
    rw [gl_x_3]
    generalize ls_sm (gl_p A B C n s false) (gp_ls A B C n n) = u
    generalize ls_sm (gl_p A B C n s true) (gp_ls A B C n n) = v
    have m2 : (2 : Int32) * zI (u : Int) = zI ((2 * u : Nat) : Int) := zI_muln 2 u _ rfl
    have m5 : (5 : Int32) * zI (v : Int) = zI ((5 * v : Nat) : Int) := zI_muln 5 v _ rfl
    rw [if_neg (show ¬ zI ((3 : Nat) : Int) = (0 : Int32) by decide), if_neg (show ¬ zI ((3 : Nat) : Int) = (1 : Int32) by decide), if_neg (show ¬ zI ((3 : Nat) : Int) = (2 : Int32) by decide), if_pos (show zI ((3 : Nat) : Int) = (3 : Int32) from rfl), m2, m5, zI_addn]
  · rw [gl_x_1 hk6 h3]
    generalize ls_sm (gl_p A B C n s false) (gp_ls A B C n n) = u
    generalize ls_sm (gl_p A B C n s true) (gp_ls A B C n n) = v
    have e6 : (zI (s : Int) = zI (n : Int) - (1 : Int32)) ↔ s + 1 = n := by
      rw [zI_1, zI_sub, zI_eq (zB_n (by omega)) ⟨by omega, by omega⟩]; omega
    have e7 : (1 : Int32) + zI (s : Int) = zI ((1 + s : Nat) : Int) := zI_addl 1 s _ rfl
    have m2 : (2 : Int32) * zI (u : Int) = zI ((2 * u : Nat) : Int) := zI_muln 2 u _ rfl
    have m7 : (7 : Int32) * zI (u : Int) = zI ((7 * u : Nat) : Int) := zI_muln 7 u _ rfl
    rw [m2, e7, zI_muln (1 + s) u _ rfl, m7]
    unfold gl_1
    rcases (show k = 0 ∨ k = 1 ∨ k = 2 ∨ k = 4 ∨ k = 5 by omega) with rfl | rfl | rfl | rfl | rfl
    · rw [if_pos (show zI ((0 : Nat) : Int) = (0 : Int32) from rfl), if_pos rfl, Nat.one_mul]
    · rw [if_neg (show ¬ zI ((1 : Nat) : Int) = (0 : Int32) by decide), if_pos (show zI ((1 : Nat) : Int) = (1 : Int32) from rfl), if_neg (by decide), if_pos rfl]
    · rw [if_neg (show ¬ zI ((2 : Nat) : Int) = (0 : Int32) by decide), if_neg (show ¬ zI ((2 : Nat) : Int) = (1 : Int32) by decide), if_pos (show zI ((2 : Nat) : Int) = (2 : Int32) from rfl), if_neg (by decide), if_neg (by decide), if_pos rfl, Nat.zero_mul]; rfl
    · rw [if_neg (show ¬ zI ((4 : Nat) : Int) = (0 : Int32) by decide), if_neg (show ¬ zI ((4 : Nat) : Int) = (1 : Int32) by decide), if_neg (show ¬ zI ((4 : Nat) : Int) = (2 : Int32) by decide), if_neg (show ¬ zI ((4 : Nat) : Int) = (3 : Int32) by decide), if_pos (show zI ((4 : Nat) : Int) = (4 : Int32) from rfl), if_neg (by decide), if_neg (by decide), if_neg (by decide), if_pos rfl]
    · rw [if_neg (show ¬ zI ((5 : Nat) : Int) = (0 : Int32) by decide), if_neg (show ¬ zI ((5 : Nat) : Int) = (1 : Int32) by decide), if_neg (show ¬ zI ((5 : Nat) : Int) = (2 : Int32) by decide), if_neg (show ¬ zI ((5 : Nat) : Int) = (3 : Int32) by decide), if_neg (show ¬ zI ((5 : Nat) : Int) = (4 : Int32) by decide), if_neg (show ¬ (5 = 0) by decide), if_neg (show ¬ (5 = 1) by decide), if_neg (show ¬ (5 = 2) by decide), if_neg (show ¬ (5 = 4) by decide)]
      by_cases h : s + 1 = n
      · rw [if_pos (e6.mpr h), if_pos h]
      · rw [if_neg (fun z => h (e6.mp z)), if_neg h, Nat.zero_mul]; rfl
