/-! lines that are told: why not -/
def gwhy (a b c : Int) : Int := if a < -9 ∨ b < -9 ∨ c < -99 then -4 else if 9 < a ∨ 9 < b ∨ 99 < c then -6 else if a = 0 ∧ b = 0 then -3 else 0
theorem zi_eq {a b : Int} (ha : zB a) (hb : zB b) (x y : Int32) (hx : x = zI a) (hy : y = zI b) : x = y ↔ a = b := by subst hx; subst hy; exact zI_eq ha hb
theorem gwhy_0 {a b c : Int} (h : gwhy a b c = 0) : ab 9 a ∧ ab 9 b ∧ ab 99 c ∧ (a ≠ 0 ∨ b ≠ 0) := by
  unfold gwhy at h
  unfold ab
  split at h
  · omega
  · split at h
    · omega
    · split at h <;> omega
theorem gwhy_or (a b c : Int) : gwhy a b c = -4 ∨ gwhy a b c = -6 ∨ gwhy a b c = -3 ∨ gwhy a b c = 0 := by
  unfold gwhy
  split
  · omega
  · split
    · omega
    · split <;> omega
theorem e_why {a b c : Int} (ha : zB a) (hb : zB b) (hc : zB c) : F_All_whyNoLine (zI a) (zI b) (zI c) = some (zI (gwhy a b c)) := by
  unfold F_All_whyNoLine gwhy
  have k1 : zI a < (-9 : Int32) ↔ a < -9 := zi_lt ha (by decide) _ _ rfl rfl
  have k2 : zI b < (-9 : Int32) ↔ b < -9 := zi_lt hb (by decide) _ _ rfl rfl
  have k2' : (-9 : Int32) ≤ zI b ↔ -9 ≤ b := zi_le (by decide) hb _ _ rfl rfl
  have k3 : (-99 : Int32) ≤ zI c ↔ -99 ≤ c := zi_le (by decide) hc _ _ rfl rfl
  have k4 : (9 : Int32) < zI a ↔ 9 < a := zi_lt (by decide) ha _ _ rfl rfl
  have k5 : (9 : Int32) < zI b ↔ 9 < b := zi_lt (by decide) hb _ _ rfl rfl
  have k5' : zI b ≤ (9 : Int32) ↔ b ≤ 9 := zi_le hb (by decide) _ _ rfl rfl
  have k6 : zI c ≤ (99 : Int32) ↔ c ≤ 99 := zi_le hc (by decide) _ _ rfl rfl
  have k7 : zI a = (0 : Int32) ↔ a = 0 := zi_eq ha (by decide) _ _ rfl rfl
  have k8 : zI b = (0 : Int32) ↔ b = 0 := zi_eq hb (by decide) _ _ rfl rfl
  simp only [k1, k2, k2', k3, k4, k5, k5', k6, k7, k8]
  by_cases q1 : a < -9
  · rw [if_pos q1, if_pos (by omega)]; rfl
  rw [if_neg q1]
  by_cases q2 : b < -9
  · rw [if_pos q2, if_pos (by omega)]; rfl
  rw [if_neg q2]
  by_cases q3 : c < -99
  · rw [if_neg (show ¬ -99 ≤ c by omega), if_pos (by omega)]; rfl
  rw [if_pos (show -99 ≤ c by omega), if_neg (show ¬ (a < -9 ∨ b < -9 ∨ c < -99) by omega)]
  by_cases q4 : 9 < a
  · rw [if_pos q4, if_pos (by omega)]; rfl
  rw [if_neg q4]
  by_cases q5 : 9 < b
  · rw [if_pos q5, if_pos (by omega)]; rfl
  rw [if_neg q5]
  by_cases q6 : 99 < c
  · rw [if_neg (show ¬ c ≤ 99 by omega), if_pos (by omega)]; rfl
  rw [if_pos (show c ≤ 99 by omega), if_neg (show ¬ (9 < a ∨ 9 < b ∨ 99 < c) by omega)]
  by_cases q7 : a = 0
  · by_cases q8 : b = 0
    · rw [if_pos q7, if_pos q8, if_pos ⟨q7, q8⟩]; rfl
    · rw [if_pos q7, if_neg q8, if_neg (fun z => q8 z.2)]; rfl
  · rw [if_neg q7, if_neg (fun z => q7 z.1)]; rfl
theorem e_mspare {a b : Int} (ha : zB a) (hb : zB b) (st : XS) : F_Mod_spare (zI a) (zI b) st = if gwhy a b 0 = -4 then F_Mod_spare_m12 st else if gwhy a b 0 = -6 then F_Mod_spare_m31 st else if gwhy a b 0 = -3 then F_Mod_spare_m59 st else F_Mod_spare_m46 (zI a) (zI b) st := by
  unfold F_Mod_spare gwhy
  have k1 : zI a < (-9 : Int32) ↔ a < -9 := zi_lt ha (by decide) _ _ rfl rfl
  have k2 : zI b < (-9 : Int32) ↔ b < -9 := zi_lt hb (by decide) _ _ rfl rfl
  have k2' : (-9 : Int32) ≤ zI b ↔ -9 ≤ b := zi_le (by decide) hb _ _ rfl rfl
  have k4 : (9 : Int32) < zI a ↔ 9 < a := zi_lt (by decide) ha _ _ rfl rfl
  have k5 : (9 : Int32) < zI b ↔ 9 < b := zi_lt (by decide) hb _ _ rfl rfl
  have k5' : zI b ≤ (9 : Int32) ↔ b ≤ 9 := zi_le hb (by decide) _ _ rfl rfl
  have k7 : zI a = (0 : Int32) ↔ a = 0 := zi_eq ha (by decide) _ _ rfl rfl
  have k8 : zI b = (0 : Int32) ↔ b = 0 := zi_eq hb (by decide) _ _ rfl rfl
  simp only [k1, k2, k2', k4, k5, k5', k7, k8]
  by_cases q1 : a < -9
  · rw [if_pos q1, if_pos (show (a < -9 ∨ b < -9 ∨ (0 : Int) < -99) by omega)]; rfl
  rw [if_neg q1]
  by_cases q2 : b < -9
  · rw [if_neg (show ¬ -9 ≤ b by omega), if_pos (show (a < -9 ∨ b < -9 ∨ (0 : Int) < -99) by omega)]; rfl
  rw [if_pos (show -9 ≤ b by omega), if_neg (show ¬ (a < -9 ∨ b < -9 ∨ (0 : Int) < -99) by omega)]
  by_cases q4 : 9 < a
  · rw [if_pos q4, if_pos (show (9 < a ∨ 9 < b ∨ (99 : Int) < 0) by omega)]; rfl
  rw [if_neg q4]
  by_cases q5 : 9 < b
  · rw [if_neg (show ¬ b ≤ 9 by omega), if_pos (show (9 < a ∨ 9 < b ∨ (99 : Int) < 0) by omega)]; rfl
  rw [if_pos (show b ≤ 9 by omega), if_neg (show ¬ (9 < a ∨ 9 < b ∨ (99 : Int) < 0) by omega)]
  by_cases q7 : a = 0
  · by_cases q8 : b = 0
    · rw [if_pos q7, if_pos q8, if_pos (show a = 0 ∧ b = 0 from ⟨q7, q8⟩)]; rfl
    · rw [if_pos q7, if_neg q8, if_neg (show ¬ (a = 0 ∧ b = 0) from fun z => q8 z.2)]; rfl
  · rw [if_neg q7, if_neg (show ¬ (a = 0 ∧ b = 0) from fun z => q7 z.1)]; rfl
theorem e_mmost {a b : Int} (ha : zB a) (hb : zB b) (st : XS) : F_Mod_most (zI a) (zI b) st = if gwhy a b 0 = -4 then F_Mod_most_m12 st else if gwhy a b 0 = -6 then F_Mod_most_m31 st else if gwhy a b 0 = -3 then F_Mod_most_m59 st else F_Mod_most_m46 (zI a) (zI b) st := by
  unfold F_Mod_most gwhy
  have k1 : zI a < (-9 : Int32) ↔ a < -9 := zi_lt ha (by decide) _ _ rfl rfl
  have k2 : zI b < (-9 : Int32) ↔ b < -9 := zi_lt hb (by decide) _ _ rfl rfl
  have k2' : (-9 : Int32) ≤ zI b ↔ -9 ≤ b := zi_le (by decide) hb _ _ rfl rfl
  have k4 : (9 : Int32) < zI a ↔ 9 < a := zi_lt (by decide) ha _ _ rfl rfl
  have k5 : (9 : Int32) < zI b ↔ 9 < b := zi_lt (by decide) hb _ _ rfl rfl
  have k5' : zI b ≤ (9 : Int32) ↔ b ≤ 9 := zi_le hb (by decide) _ _ rfl rfl
  have k7 : zI a = (0 : Int32) ↔ a = 0 := zi_eq ha (by decide) _ _ rfl rfl
  have k8 : zI b = (0 : Int32) ↔ b = 0 := zi_eq hb (by decide) _ _ rfl rfl
  simp only [k1, k2, k2', k4, k5, k5', k7, k8]
  by_cases q1 : a < -9
  · rw [if_pos q1, if_pos (show (a < -9 ∨ b < -9 ∨ (0 : Int) < -99) by omega)]; rfl
  rw [if_neg q1]
  by_cases q2 : b < -9
  · rw [if_neg (show ¬ -9 ≤ b by omega), if_pos (show (a < -9 ∨ b < -9 ∨ (0 : Int) < -99) by omega)]; rfl
  rw [if_pos (show -9 ≤ b by omega), if_neg (show ¬ (a < -9 ∨ b < -9 ∨ (0 : Int) < -99) by omega)]
  by_cases q4 : 9 < a
  · rw [if_pos q4, if_pos (show (9 < a ∨ 9 < b ∨ (99 : Int) < 0) by omega)]; rfl
  rw [if_neg q4]
  by_cases q5 : 9 < b
  · rw [if_neg (show ¬ b ≤ 9 by omega), if_pos (show (9 < a ∨ 9 < b ∨ (99 : Int) < 0) by omega)]; rfl
  rw [if_pos (show b ≤ 9 by omega), if_neg (show ¬ (9 < a ∨ 9 < b ∨ (99 : Int) < 0) by omega)]
  by_cases q7 : a = 0
  · by_cases q8 : b = 0
    · rw [if_pos q7, if_pos q8, if_pos (show a = 0 ∧ b = 0 from ⟨q7, q8⟩)]; rfl
    · rw [if_pos q7, if_neg q8, if_neg (show ¬ (a = 0 ∧ b = 0) from fun z => q8 z.2)]; rfl
  · rw [if_neg q7, if_neg (show ¬ (a = 0 ∧ b = 0) from fun z => q7 z.1)]; rfl
theorem e_mnext {a b c : Int} (ha : zB a) (hb : zB b) (hc : zB c) (x4 : Int32) (st : XS) : F_Mod_next_m21 (zI a) (zI b) (zI c) x4 st = if gwhy a b c = -4 then F_Mod_next_m39 st else if gwhy a b c = -6 then F_Mod_next_m64 st else if gwhy a b c = -3 then F_Mod_next_m92 st else F_Mod_next_m79 (zI a) (zI b) (zI c) x4 st := by
  unfold F_Mod_next_m21 gwhy
  have k1 : zI a < (-9 : Int32) ↔ a < -9 := zi_lt ha (by decide) _ _ rfl rfl
  have k2 : zI b < (-9 : Int32) ↔ b < -9 := zi_lt hb (by decide) _ _ rfl rfl
  have k2' : (-9 : Int32) ≤ zI b ↔ -9 ≤ b := zi_le (by decide) hb _ _ rfl rfl
  have k3 : (-99 : Int32) ≤ zI c ↔ -99 ≤ c := zi_le (by decide) hc _ _ rfl rfl
  have k4 : (9 : Int32) < zI a ↔ 9 < a := zi_lt (by decide) ha _ _ rfl rfl
  have k5 : (9 : Int32) < zI b ↔ 9 < b := zi_lt (by decide) hb _ _ rfl rfl
  have k5' : zI b ≤ (9 : Int32) ↔ b ≤ 9 := zi_le hb (by decide) _ _ rfl rfl
  have k6 : zI c ≤ (99 : Int32) ↔ c ≤ 99 := zi_le hc (by decide) _ _ rfl rfl
  have k7 : zI a = (0 : Int32) ↔ a = 0 := zi_eq ha (by decide) _ _ rfl rfl
  have k8 : zI b = (0 : Int32) ↔ b = 0 := zi_eq hb (by decide) _ _ rfl rfl
  simp only [k1, k2, k2', k3, k4, k5, k5', k6, k7, k8]
  by_cases q1 : a < -9
  · rw [if_pos q1, if_pos (show (a < -9 ∨ b < -9 ∨ c < -99) by omega)]; rfl
  rw [if_neg q1]
  by_cases q2 : b < -9
  · rw [if_pos q2, if_pos (show (a < -9 ∨ b < -9 ∨ c < -99) by omega)]; rfl
  rw [if_neg q2]
  by_cases q3 : c < -99
  · rw [if_neg (show ¬ -99 ≤ c by omega), if_pos (show (a < -9 ∨ b < -9 ∨ c < -99) by omega)]; rfl
  rw [if_pos (show -99 ≤ c by omega), if_neg (show ¬ (a < -9 ∨ b < -9 ∨ c < -99) by omega)]
  by_cases q4 : 9 < a
  · rw [if_pos q4, if_pos (show (9 < a ∨ 9 < b ∨ 99 < c) by omega)]; rfl
  rw [if_neg q4]
  by_cases q5 : 9 < b
  · rw [if_pos q5, if_pos (show (9 < a ∨ 9 < b ∨ 99 < c) by omega)]; rfl
  rw [if_neg q5]
  by_cases q6 : 99 < c
  · rw [if_neg (show ¬ c ≤ 99 by omega), if_pos (show (9 < a ∨ 9 < b ∨ 99 < c) by omega)]; rfl
  rw [if_pos (show c ≤ 99 by omega), if_neg (show ¬ (9 < a ∨ 9 < b ∨ 99 < c) by omega)]
  by_cases q7 : a = 0
  · by_cases q8 : b = 0
    · rw [if_pos q7, if_pos q8, if_pos (show a = 0 ∧ b = 0 from ⟨q7, q8⟩)]; rfl
    · rw [if_pos q7, if_neg q8, if_neg (show ¬ (a = 0 ∧ b = 0) from fun z => q8 z.2)]; rfl
  · rw [if_neg q7, if_neg (show ¬ (a = 0 ∧ b = 0) from fun z => q7 z.1)]; rfl
def fthr (a b : Int) (x3 : Int32) (st : XS) : Option (Int32 × XS) := if zI a < (-9 : Int32) then F_Mod_through_m26 st else if (-9 : Int32) ≤ zI b then if (9 : Int32) < zI a then F_Mod_through_m45 st else if zI b ≤ (9 : Int32) then if zI a = (0 : Int32) then if zI b = (0 : Int32) then xo_bn (F_Mod_noFar (-3 : Int32) st) fun v10 t11 => some (v10, t11) else F_Mod_through_m69 (zI a) (zI b) x3 st else F_Mod_through_m69 (zI a) (zI b) x3 st else F_Mod_through_m45 st else F_Mod_through_m26 st
theorem e_mthr {a b : Int} (ha : zB a) (hb : zB b) (x3 : Int32) (st : XS) : fthr a b x3 st = if gwhy a b 0 = -4 then F_Mod_through_m26 st else if gwhy a b 0 = -6 then F_Mod_through_m45 st else if gwhy a b 0 = -3 then xo_bn (F_Mod_noFar (-3 : Int32) st) (fun v10 t11 => some (v10, t11)) else F_Mod_through_m69 (zI a) (zI b) x3 st := by
  unfold fthr gwhy
  have k1 : zI a < (-9 : Int32) ↔ a < -9 := zi_lt ha (by decide) _ _ rfl rfl
  have k2 : zI b < (-9 : Int32) ↔ b < -9 := zi_lt hb (by decide) _ _ rfl rfl
  have k2' : (-9 : Int32) ≤ zI b ↔ -9 ≤ b := zi_le (by decide) hb _ _ rfl rfl
  have k4 : (9 : Int32) < zI a ↔ 9 < a := zi_lt (by decide) ha _ _ rfl rfl
  have k5 : (9 : Int32) < zI b ↔ 9 < b := zi_lt (by decide) hb _ _ rfl rfl
  have k5' : zI b ≤ (9 : Int32) ↔ b ≤ 9 := zi_le hb (by decide) _ _ rfl rfl
  have k7 : zI a = (0 : Int32) ↔ a = 0 := zi_eq ha (by decide) _ _ rfl rfl
  have k8 : zI b = (0 : Int32) ↔ b = 0 := zi_eq hb (by decide) _ _ rfl rfl
  simp only [k1, k2, k2', k4, k5, k5', k7, k8]
  by_cases q1 : a < -9
  · rw [if_pos q1, if_pos (show (a < -9 ∨ b < -9 ∨ (0 : Int) < -99) by omega)]; rfl
  rw [if_neg q1]
  by_cases q2 : b < -9
  · rw [if_neg (show ¬ -9 ≤ b by omega), if_pos (show (a < -9 ∨ b < -9 ∨ (0 : Int) < -99) by omega)]; rfl
  rw [if_pos (show -9 ≤ b by omega), if_neg (show ¬ (a < -9 ∨ b < -9 ∨ (0 : Int) < -99) by omega)]
  by_cases q4 : 9 < a
  · rw [if_pos q4, if_pos (show (9 < a ∨ 9 < b ∨ (99 : Int) < 0) by omega)]; rfl
  rw [if_neg q4]
  by_cases q5 : 9 < b
  · rw [if_neg (show ¬ b ≤ 9 by omega), if_pos (show (9 < a ∨ 9 < b ∨ (99 : Int) < 0) by omega)]; rfl
  rw [if_pos (show b ≤ 9 by omega), if_neg (show ¬ (9 < a ∨ 9 < b ∨ (99 : Int) < 0) by omega)]
  by_cases q7 : a = 0
  · by_cases q8 : b = 0
    · rw [if_pos q7, if_pos q8, if_pos (show a = 0 ∧ b = 0 from ⟨q7, q8⟩)]; rfl
    · rw [if_pos q7, if_neg q8, if_neg (show ¬ (a = 0 ∧ b = 0) from fun z => q8 z.2)]; rfl
  · rw [if_neg q7, if_neg (show ¬ (a = 0 ∧ b = 0) from fun z => q7 z.1)]; rfl
