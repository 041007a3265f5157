/-! refusals, both sides at once (the steps of the law stand in 16.law: stated here as they stand there) -/
theorem st_no1 {sc sm : XS} (h : xz_RR sc sm) : ∃ (r : Int32) (sc2 sm2 : XS), xo_bn (F_All_refuse (-1 : Int32) sc) (fun v t => some (v, t)) = some (r, sc2) ∧ xo_bn (F_Mod_no (-1 : Int32) sm) (fun v t => some (v, t)) = some (r, sm2) ∧ xz_RR sc2 sm2 := by
  obtain ⟨sc2, sm2, h1, h2, h3⟩ := e_no h (r := 1) (by decide) (by decide)
  have e : zI (-((1 : Nat) : Int)) = (-1 : Int32) := rfl
  rw [e] at h1 h2
  rw [h1, h2]
  exact ⟨_, sc2, sm2, rfl, rfl, h3⟩
theorem st_far1 {sc sm : XS} (h : xz_RR sc sm) : ∃ (r : Int32) (sc2 sm2 : XS), xo_bn (F_All_refuseFar (-1 : Int32) sc) (fun v t => some (v, t)) = some (r, sc2) ∧ xo_bn (F_Mod_noFar (-1 : Int32) sm) (fun v t => some (v, t)) = some (r, sm2) ∧ xz_RR sc2 sm2 := by
  obtain ⟨sc2, sm2, h1, h2, h3⟩ := e_noFar h (r := 1) (by decide) (by decide)
  have e : zI (-((1 : Nat) : Int)) = (-1 : Int32) := rfl
  rw [e] at h1 h2
  rw [h1, h2]
  exact ⟨_, sc2, sm2, rfl, rfl, h3⟩
theorem st_no2 {sc sm : XS} (h : xz_RR sc sm) : ∃ (r : Int32) (sc2 sm2 : XS), xo_bn (F_All_refuse (-2 : Int32) sc) (fun v t => some (v, t)) = some (r, sc2) ∧ xo_bn (F_Mod_no (-2 : Int32) sm) (fun v t => some (v, t)) = some (r, sm2) ∧ xz_RR sc2 sm2 := by
  obtain ⟨sc2, sm2, h1, h2, h3⟩ := e_no h (r := 2) (by decide) (by decide)
  have e : zI (-((2 : Nat) : Int)) = (-2 : Int32) := rfl
  rw [e] at h1 h2
  rw [h1, h2]
  exact ⟨_, sc2, sm2, rfl, rfl, h3⟩
theorem st_far2 {sc sm : XS} (h : xz_RR sc sm) : ∃ (r : Int32) (sc2 sm2 : XS), xo_bn (F_All_refuseFar (-2 : Int32) sc) (fun v t => some (v, t)) = some (r, sc2) ∧ xo_bn (F_Mod_noFar (-2 : Int32) sm) (fun v t => some (v, t)) = some (r, sm2) ∧ xz_RR sc2 sm2 := by
  obtain ⟨sc2, sm2, h1, h2, h3⟩ := e_noFar h (r := 2) (by decide) (by decide)
  have e : zI (-((2 : Nat) : Int)) = (-2 : Int32) := rfl
  rw [e] at h1 h2
  rw [h1, h2]
  exact ⟨_, sc2, sm2, rfl, rfl, h3⟩
theorem st_no3 {sc sm : XS} (h : xz_RR sc sm) : ∃ (r : Int32) (sc2 sm2 : XS), xo_bn (F_All_refuse (-3 : Int32) sc) (fun v t => some (v, t)) = some (r, sc2) ∧ xo_bn (F_Mod_no (-3 : Int32) sm) (fun v t => some (v, t)) = some (r, sm2) ∧ xz_RR sc2 sm2 := by
  obtain ⟨sc2, sm2, h1, h2, h3⟩ := e_no h (r := 3) (by decide) (by decide)
  have e : zI (-((3 : Nat) : Int)) = (-3 : Int32) := rfl
  rw [e] at h1 h2
  rw [h1, h2]
  exact ⟨_, sc2, sm2, rfl, rfl, h3⟩
theorem st_far3 {sc sm : XS} (h : xz_RR sc sm) : ∃ (r : Int32) (sc2 sm2 : XS), xo_bn (F_All_refuseFar (-3 : Int32) sc) (fun v t => some (v, t)) = some (r, sc2) ∧ xo_bn (F_Mod_noFar (-3 : Int32) sm) (fun v t => some (v, t)) = some (r, sm2) ∧ xz_RR sc2 sm2 := by
  obtain ⟨sc2, sm2, h1, h2, h3⟩ := e_noFar h (r := 3) (by decide) (by decide)
  have e : zI (-((3 : Nat) : Int)) = (-3 : Int32) := rfl
  rw [e] at h1 h2
  rw [h1, h2]
  exact ⟨_, sc2, sm2, rfl, rfl, h3⟩
theorem st_no4 {sc sm : XS} (h : xz_RR sc sm) : ∃ (r : Int32) (sc2 sm2 : XS), xo_bn (F_All_refuse (-4 : Int32) sc) (fun v t => some (v, t)) = some (r, sc2) ∧ xo_bn (F_Mod_no (-4 : Int32) sm) (fun v t => some (v, t)) = some (r, sm2) ∧ xz_RR sc2 sm2 := by
  obtain ⟨sc2, sm2, h1, h2, h3⟩ := e_no h (r := 4) (by decide) (by decide)
  have e : zI (-((4 : Nat) : Int)) = (-4 : Int32) := rfl
  rw [e] at h1 h2
  rw [h1, h2]
  exact ⟨_, sc2, sm2, rfl, rfl, h3⟩
theorem st_far4 {sc sm : XS} (h : xz_RR sc sm) : ∃ (r : Int32) (sc2 sm2 : XS), xo_bn (F_All_refuseFar (-4 : Int32) sc) (fun v t => some (v, t)) = some (r, sc2) ∧ xo_bn (F_Mod_noFar (-4 : Int32) sm) (fun v t => some (v, t)) = some (r, sm2) ∧ xz_RR sc2 sm2 := by
  obtain ⟨sc2, sm2, h1, h2, h3⟩ := e_noFar h (r := 4) (by decide) (by decide)
  have e : zI (-((4 : Nat) : Int)) = (-4 : Int32) := rfl
  rw [e] at h1 h2
  rw [h1, h2]
  exact ⟨_, sc2, sm2, rfl, rfl, h3⟩
theorem st_no6 {sc sm : XS} (h : xz_RR sc sm) : ∃ (r : Int32) (sc2 sm2 : XS), xo_bn (F_All_refuse (-6 : Int32) sc) (fun v t => some (v, t)) = some (r, sc2) ∧ xo_bn (F_Mod_no (-6 : Int32) sm) (fun v t => some (v, t)) = some (r, sm2) ∧ xz_RR sc2 sm2 := by
  obtain ⟨sc2, sm2, h1, h2, h3⟩ := e_no h (r := 6) (by decide) (by decide)
  have e : zI (-((6 : Nat) : Int)) = (-6 : Int32) := rfl
  rw [e] at h1 h2
  rw [h1, h2]
  exact ⟨_, sc2, sm2, rfl, rfl, h3⟩
theorem st_far6 {sc sm : XS} (h : xz_RR sc sm) : ∃ (r : Int32) (sc2 sm2 : XS), xo_bn (F_All_refuseFar (-6 : Int32) sc) (fun v t => some (v, t)) = some (r, sc2) ∧ xo_bn (F_Mod_noFar (-6 : Int32) sm) (fun v t => some (v, t)) = some (r, sm2) ∧ xz_RR sc2 sm2 := by
  obtain ⟨sc2, sm2, h1, h2, h3⟩ := e_noFar h (r := 6) (by decide) (by decide)
  have e : zI (-((6 : Nat) : Int)) = (-6 : Int32) := rfl
  rw [e] at h1 h2
  rw [h1, h2]
  exact ⟨_, sc2, sm2, rfl, rfl, h3⟩
theorem zi_lt {a b : Int} (ha : zB a) (hb : zB b) (x y : Int32) (hx : x = zI a) (hy : y = zI b) : x < y ↔ a < b := by subst hx; subst hy; exact zI_lt ha hb
theorem zi_le {a b : Int} (ha : zB a) (hb : zB b) (x y : Int32) (hx : x = zI a) (hy : y = zI b) : x ≤ y ↔ a ≤ b := by subst hx; subst hy; exact zI_le ha hb
/-! a letter -/
theorem s_letter (sc sm : XS) (x1 : Int32) (h : xz_RR sc sm) : ∃ (r : Int32) (sc2 sm2 : XS), F_All_letter x1 sc = some (r, sc2) ∧ F_Mod_letter x1 sm = some (r, sm2) ∧ xz_RR sc2 sm2 := by
  obtain ⟨z, hz, rfl⟩ := zI_of x1
  have hq := h
  obtain ⟨⟨n, A, B, C, Kd, P, X, Y, h1⟩, ⟨l, hl, c1, m1, hls⟩, h3, h4, h5⟩ := h
  unfold F_All_letter F_Mod_letter F_All_letter_m28 F_Mod_letter_m27
  have k1 : (0 : Int32) ≤ zI z ↔ 0 ≤ z := zi_le (by decide) hz _ _ rfl rfl
  have k2 : (255 : Int32) < zI z ↔ 255 < z := zi_lt (by decide) hz _ _ rfl rfl
  simp only [k1, k2]
  by_cases z0 : 0 ≤ z
  · rw [if_pos z0, if_pos z0]
    by_cases z1 : 255 < z
    · rw [if_pos z1, if_pos z1]
      exact st_no6 hq
    · rw [if_neg z1, if_neg z1]
      have hf : F_Let_isFull sc = some (zI (if l < 96 then 0 else 1)) := by
        unfold F_Let_isFull
        have k3 : zI (l : Int) < (96 : Int32) ↔ (l : Int) < 96 := zi_lt (zB_n (by omega)) (by decide) _ _ rfl rfl
        rw [c1]
        by_cases hc : l < 96
        · rw [if_pos (k3.mpr (by omega)), if_pos hc]; rfl
        · rw [if_neg (fun q => hc (by have := k3.mp q; omega)), if_neg hc]; rfl
      rw [hf, Option.bind_some]
      by_cases hc : l < 96
      · have hne : ¬ sm.1 0 8 = (96 : Int32) := by
          rw [m1, show (96 : Int32) = zI 96 from rfl, zI_eq (zB_n (by omega)) (by decide)]; omega
        rw [if_pos hc, if_pos (show zI 0 = 0 from rfl), if_neg hne]
        unfold F_Let_put
        rw [hf, Option.bind_some, if_pos hc, if_pos (show zI 0 = 0 from rfl), c1, xo_ck_z hc (by decide), Option.bind_some, xo_nm_b, xo_nm_b, zI_cl (by omega), m1, xo_nm_b, xo_ck_z hc (by decide), Option.bind_some, xo_nm_b, zI_cl (by omega), zI_suc]
        have e1 : (xs_A sc 29 (upd (sc.1 29) l (zI z))).1 28 1 = zI (l : Int) := by simp [xs_A, c1]
        rw [e1, zI_suc]
        have e2 : (xs_I (xs_A sc 29 (upd (sc.1 29) l (zI z))) 28 1 (zI ((l + 1 : Nat) : Int))).1 28 1 = zI ((l + 1 : Nat) : Int) := by simp [xs_I, upd]
        have e3 : (xs_A (xs_I sm 0 8 (zI ((l + 1 : Nat) : Int))) 9 (upd ((xs_I sm 0 8 (zI ((l + 1 : Nat) : Int))).1 9) l (zI z))).1 0 8 = zI ((l + 1 : Nat) : Int) := by simp [xs_A, xs_I, upd]
        rw [e2, e3]
        refine ⟨_, _, _, rfl, rfl, ?_⟩
        generalize hsc : xs_I (xs_A sc 29 (upd (sc.1 29) l (zI z))) 28 1 (zI ((l + 1 : Nat) : Int)) = sc2
        generalize hsm : xs_A (xs_I sm 0 8 (zI ((l + 1 : Nat) : Int))) 9 (upd ((xs_I sm 0 8 (zI ((l + 1 : Nat) : Int))).1 9) l (zI z)) = sm2
        have hcc : ∀ k, k ≠ 28 → k ≠ 29 → sc2.1 k = sc.1 k := fun k g1 g2 => by rw [← hsc]; simp [xs_A, xs_I, g1, g2]
        have hcl : sc2.2 = sc.2 := by rw [← hsc]; rfl
        have hmm : ∀ k, k ≠ 0 → k ≠ 9 → sm2.1 k = sm.1 k := fun k g1 g2 => by rw [← hsm]; simp [xs_A, xs_I, g1, g2]
        have hm0 : ∀ j, j ≠ 8 → sm2.1 0 j = sm.1 0 j := fun j g1 => by rw [← hsm]; simp [xs_A, xs_I, upd, g1]
        refine ⟨⟨n, A, B, C, Kd, P, X, Y, xR_of h1 (fun k _ _ => hcc k (by omega) (by omega)) (fun k _ _ => hcc k (by omega) (by omega)) hcl (hm0 0 (by omega)) (hm0 5 (by omega)) (fun k _ => hmm k (by omega) (by omega)) (fun s _ => by rw [hmm 2 (by omega) (by omega), hmm 3 (by omega) (by omega), hmm 4 (by omega) (by omega)]; exact ⟨rfl, rfl, rfl⟩)⟩, ⟨l + 1, by omega, ?_, ?_, fun i hi => ?_⟩, xW_of h3 (by rw [hcc 0 (by omega) (by omega)]) (hcc 31 (by omega) (by omega)) (hm0 12 (by omega)) (hmm 13 (by omega) (by omega)), xF_of h4 (hcc 32 (by omega) (by omega)) (hmm 14 (by omega) (by omega)), xI_of h5 (by rw [hcc 0 (by omega) (by omega)]) (hm0 15 (by omega)) (fun k _ _ => hcc k (by omega) (by omega)) (hmm 16 (by omega) (by omega))⟩
        · rw [← hsc]; simp [xs_I, upd]
        · rw [← hsm]; simp [xs_A, xs_I, upd]
        · by_cases e : i = l
          · subst e
            refine ⟨z.toNat, by omega, ?_, ?_⟩
            · rw [← hsc, show ((z.toNat : Nat) : Int) = z by omega]; simp [xs_A, xs_I, upd]
            · rw [← hsm, show ((z.toNat : Nat) : Int) = z by omega]; simp [xs_A, xs_I, upd]
          · obtain ⟨c, g1, g2, g3⟩ := hls i (by omega)
            refine ⟨c, g1, ?_, ?_⟩
            · rw [← hsc]; simpa [xs_A, xs_I, upd, e] using g2
            · rw [← hsm]; simpa [xs_A, xs_I, upd, e] using g3
      · have hne : sm.1 0 8 = (96 : Int32) := by
          rw [m1, show (96 : Int32) = zI 96 from rfl]; congr 1; omega
        rw [if_neg hc, if_neg (by decide), if_pos hne]
        exact st_no6 hq
  · rw [if_neg z0, if_neg z0]
    exact st_no4 hq
