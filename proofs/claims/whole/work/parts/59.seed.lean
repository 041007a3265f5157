/-! together, seeds, the row judged -/
theorem s_together (sc sm : XS) (x1 : Int32) (h : xz_RR sc sm) : ∃ (r : Int32) (sc2 sm2 : XS), F_All_together x1 sc = some (r, sc2) ∧ F_Mod_together x1 sm = some (r, sm2) ∧ xz_RR sc2 sm2 := by
  obtain ⟨x, hx, rfl⟩ := zI_of x1
  have hq := h
  obtain ⟨⟨n, A, B, C, Kd, P, X, Y, h1, hok, hpl, hkd, hp, hn, hm, hpm⟩, h2, h3, h4, h5⟩ := h
  have h6 := h1.2.1
  have h8 := hp.2.1
  unfold F_All_together F_Mod_together
  rw [e_hasPlot hp hx, e_misPlot hpm.1 hpm.2.1 hx, Option.bind_some, Option.bind_some]
  by_cases c : 0 ≤ x ∧ x < (P : Int)
  · obtain ⟨p, rfl⟩ : ∃ p : Nat, x = p := ⟨x.toNat, by omega⟩
    rw [if_pos c, if_neg (by decide), if_neg (by decide), e_qPlot h1 hp (show p < P by omega), e_mwhere hm hn hpm (show p < P by omega), Option.bind_some, Option.bind_some]
    by_cases hz : gw_z A B C n (X p) (Y p) = true
    · have e9 := (gw_9 (A := A) (B := B) (C := C) h6 _ _).mpr hz
      rw [lp_go (fun i => ((0 : Int32), zI (i : Int))) P 0 (by rfl) (by omega) (fun k hk => ?_) ?_, lp_go (fun i => ((0 : Int32), zI (i : Int))) 0 0 (by rfl) (by omega) (fun k hk => ?_) ?_]
      · exact ⟨_, _, _, rfl, rfl, hq⟩
      · unfold F_Mod_together_b25
        dsimp only
        rw [hpm.1, e9, if_pos rfl]
        split <;> rfl
      · exact absurd hk (Nat.not_lt_zero k)
      · unfold F_All_together_b31
        dsimp only
        rw [hp.1, if_pos (zI_rfl _)]
      · unfold F_All_together_b31
        dsimp only
        rw [hp.1, if_neg (zI_ge1 (by omega) hk), e9, if_pos rfl, xo_nm_b, zI_suc]
    · have e9 : ¬ zI (gw A B C n (X p) (Y p)) = (-9 : Int32) := fun z => hz ((gw_9 h6 _ _).mp z)
      generalize hu : gw A B C n (X p) (Y p) = u at *
      have hub : zB u := by rw [← hu]; exact gw_B h6 _ _
      have hk1 : ∀ k, (zI (gw A B C n (X k) (Y k)) = zI u) ↔ decide (gw A B C n (X k) (Y k) = u) = true := fun k => by
        rw [zI_eq (gw_B h6 _ _) hub, decide_eq_true_eq]
      rw [lp_go (fun i => (zI ((bm (fun k => decide (gw A B C n (X k) (Y k) = u)) i : Nat) : Int), zI (i : Int))) P (zI ((bm (fun k => decide (gw A B C n (X k) (Y k) = u)) P : Nat) : Int)) (by rfl) (by omega) (fun k hk => ?_) ?_, lp_go (fun i => (zI ((bm (fun k => decide (gw A B C n (X k) (Y k) = u)) i : Nat) : Int), zI (i : Int))) P (zI ((bm (fun k => decide (gw A B C n (X k) (Y k) = u)) P : Nat) : Int)) (by rfl) (by omega) (fun k hk => ?_) ?_]
      · exact ⟨_, _, _, rfl, rfl, hq⟩
      · unfold F_Mod_together_b25
        dsimp only
        rw [hpm.1, if_pos (zI_rfl _)]
      · unfold F_Mod_together_b25
        dsimp only
        rw [hpm.1, if_neg (zI_ge1 (by omega) hk), if_neg e9, e_mwhere hm hn hpm hk, Option.bind_some]
        by_cases hb : decide (gw A B C n (X k) (Y k) = u) = true
        · rw [if_pos ((hk1 k).mpr hb), xo_nm_b, xo_nm_b, zI_suc, bm_suc_t (by omega) hb]
        · rw [if_neg (fun z => hb ((hk1 k).mp z)), xo_nm_b, zI_suc, bm_suc_f (by simpa using hb)]
      · unfold F_All_together_b31
        dsimp only
        rw [hp.1, if_pos (zI_rfl _)]
      · unfold F_All_together_b31
        dsimp only
        rw [hp.1, if_neg (zI_ge1 (by omega) hk), if_neg e9, e_qPlot h1 hp hk, Option.bind_some]
        by_cases hb : decide (gw A B C n (X k) (Y k) = u) = true
        · rw [if_pos ((hk1 k).mpr hb), xo_nm_b, xo_nm_b, zI_suc, bm_suc_t (by omega) hb]
        · rw [if_neg (fun z => hb ((hk1 k).mp z)), xo_nm_b, zI_suc, bm_suc_f (by simpa using hb)]
  · rw [if_neg c, if_pos (show zI 0 = 0 from rfl), if_pos (show zI 0 = 0 from rfl)]
    exact st_no1 hq
/-- a draw -/
theorem e_draw (v : Int32) : ∃ z : Int, ab 20 z ∧ ∃ a b : Int32, xo_dv (v &&& (2147483647 : Int32)) (256 : Int32) = some a ∧ xo_rm a (41 : Int32) = some b ∧ b - (20 : Int32) = zI z := by
  obtain ⟨m, hm, rfl⟩ := wb_of32 v
  have e1 : nI m &&& (2147483647 : Int32) = nI (m % 2 ^ 31) := by
    have : (2147483647 : Int32) = nI (2 ^ 31 - 1) := rfl
    rw [this, fa_and, Nat.and_two_pow_sub_one_eq_mod]
  have hlt : m % 2 ^ 31 < 2 ^ 31 := Nat.mod_lt _ (by decide)
  have e2 : (256 : Int32) = nI 256 := rfl
  have e3 : (41 : Int32) = nI 41 := rfl
  have hd : nI (m % 2 ^ 31) / (256 : Int32) = nI (m % 2 ^ 31 / 256) := by rw [e2]; exact pk_div hlt (by decide) (by decide)
  have hlt2 : m % 2 ^ 31 / 256 < 2 ^ 31 := Nat.lt_of_le_of_lt (Nat.div_le_self _ _) hlt
  have hr : nI (m % 2 ^ 31 / 256) - nI (m % 2 ^ 31 / 256) / (41 : Int32) * (41 : Int32) = nI (m % 2 ^ 31 / 256 % 41) := by rw [e3]; exact pk_rem hlt2 (by decide) (by decide)
  have h41 : m % 2 ^ 31 / 256 % 41 < 41 := Nat.mod_lt _ (by decide)
  refine ⟨(m % 2 ^ 31 / 256 % 41 : Nat) - 20, by unfold ab; omega, nI (m % 2 ^ 31 / 256), nI (m % 2 ^ 31 / 256 % 41), ?_, ?_, ?_⟩
  · unfold xo_dv
    rw [if_neg (by decide), e1, hd]
  · unfold xo_rm
    rw [if_neg (by decide), hr]
  · rw [show (20 : Int32) = zI 20 from rfl, ← zI_n, zI_sub]
theorem e_place {v a b : Int32} {z : Int} (d : xo_dv (v &&& (2147483647 : Int32)) (256 : Int32) = some a) (f : xo_rm a (41 : Int32) = some b) (g : b - (20 : Int32) = zI z) : F_All_placeDrawn v = some (zI z) := by
  unfold F_All_placeDrawn
  rw [d, Option.bind_some, f, Option.bind_some, g]
def seed_r (A B C : Nat → Int) (n : Nat) (z1 z2 : Int) (v2 : Int32) (S : Nat → Bool) (k : Nat) : Option ((Int32 × Int64 × Int32) ⊕ Int64) := if zI (gw A B C n z1 z2) = (-9 : Int32) then some (.inl (v2, lS S, zI ((k + 1 : Nat) : Int))) else some (.inl (v2, lS S ||| ((1 : Int64) <<< ((zI (gw A B C n z1 z2)).toInt64 &&& 63)), zI ((k + 1 : Nat) : Int)))
theorem seeds_A {sc : XS} {n : Nat} {A B C : Nat → Int} (h1 : cL sc n A B C) {w k : Nat} (hw : w ≤ 30) {v v1 v2 : Int32} {S : Nat → Bool} (hk : k < w) {z1 z2 : Int} (y1 : ab 20 z1) (y2 : ab 20 z2) (e1 : F_All_seedAfter v = some v1) (p1 : F_All_placeDrawn v1 = some (zI z1)) (e2 : F_All_seedAfter v1 = some v2) (p2 : F_All_placeDrawn v2 = some (zI z2)) : F_All_seeds_b33 (zI (w : Int)) sc v (lS S) (zI (k : Int)) = seed_r A B C n z1 z2 v2 S k := by
  unfold F_All_seeds_b33 seed_r
  rw [if_neg (zI_ge1 (by omega) hk), e1, Option.bind_some, p1, Option.bind_some, e2, Option.bind_some, p2, Option.bind_some, e_qAt h1 y1 y2, Option.bind_some, xo_nm_b, xo_nm_b, xo_nm_b, zI_suc]
theorem seeds_M {sm : XS} {n : Nat} {A B C : Nat → Int} (hm : mL sm n A B C) (hn : sm.1 0 0 = zI (n : Int)) {w k : Nat} (hw : w ≤ 30) {v v1 v2 a1 b1 a2 b2 : Int32} {S : Nat → Bool} (hk : k < w) {z1 z2 : Int} (y1 : ab 20 z1) (y2 : ab 20 z2) (e1 : v * (1664525 : Int32) + (1013904223 : Int32) = v1) (d1 : xo_dv (v1 &&& (2147483647 : Int32)) (256 : Int32) = some a1) (f1 : xo_rm a1 (41 : Int32) = some b1) (g1 : b1 - (20 : Int32) = zI z1) (e2 : v1 * (1664525 : Int32) + (1013904223 : Int32) = v2) (d2 : xo_dv (v2 &&& (2147483647 : Int32)) (256 : Int32) = some a2) (f2 : xo_rm a2 (41 : Int32) = some b2) (g2 : b2 - (20 : Int32) = zI z2) : F_Mod_seeds_b33 (zI (w : Int)) sm v (lS S) (zI (k : Int)) = seed_r A B C n z1 z2 v2 S k := by
  unfold F_Mod_seeds_b33 seed_r
  rw [if_neg (zI_ge1 (by omega) hk), e1, xo_nm_b, d1, Option.bind_some, f1, Option.bind_some, xo_nm_b, e2, xo_nm_b, d2, Option.bind_some, f2, Option.bind_some, xo_nm_b, g1, g2, e_mat hm hn y1 y2, Option.bind_some, xo_nm_b, xo_nm_b, xo_nm_b, zI_suc]
theorem seeds_step {sc sm : XS} {n : Nat} {A B C : Nat → Int} (h1 : cL sc n A B C) (hm : mL sm n A B C) (hn : sm.1 0 0 = zI (n : Int)) {w : Nat} (hw : w ≤ 30) (k : Nat) (v : Int32) (S : Nat → Bool) (hk : k < w) : ∃ (v2 : Int32) (S2 : Nat → Bool), F_All_seeds_b33 (zI (w : Int)) sc v (lS S) (zI (k : Int)) = some (.inl (v2, lS S2, zI ((k + 1 : Nat) : Int))) ∧ F_Mod_seeds_b33 (zI (w : Int)) sm v (lS S) (zI (k : Int)) = some (.inl (v2, lS S2, zI ((k + 1 : Nat) : Int))) := by
  have h6 := h1.2.1
  have e1 : F_All_seedAfter v = some (v * (1664525 : Int32) + (1013904223 : Int32)) := by unfold F_All_seedAfter; exact rfl
  obtain ⟨v1, q1⟩ : ∃ v1, v * (1664525 : Int32) + (1013904223 : Int32) = v1 := ⟨_, rfl⟩
  have e2 : F_All_seedAfter v1 = some (v1 * (1664525 : Int32) + (1013904223 : Int32)) := by unfold F_All_seedAfter; exact rfl
  obtain ⟨v2, q2⟩ : ∃ v2, v1 * (1664525 : Int32) + (1013904223 : Int32) = v2 := ⟨_, rfl⟩
  rw [q1] at e1
  rw [q2] at e2
  obtain ⟨z1, y1, a1, b1, d1, f1, g1⟩ := e_draw v1
  obtain ⟨z2, y2, a2, b2, d2, f2, g2⟩ := e_draw v2
  rw [seeds_A h1 hw hk y1 y2 e1 (e_place d1 f1 g1) e2 (e_place d2 f2 g2), seeds_M hm hn hw hk y1 y2 q1 d1 f1 g1 q2 d2 f2 g2]
  unfold seed_r
  by_cases hz : gw_z A B C n z1 z2 = true
  · have e9 := (gw_9 (A := A) (B := B) (C := C) h6 _ _).mpr hz
    rw [if_pos e9]
    exact ⟨_, S, rfl, rfl⟩
  · have e9 : ¬ zI (gw A B C n z1 z2) = (-9 : Int32) := fun z => hz ((gw_9 h6 _ _).mp z)
    rw [if_neg e9, gw_n hz, lS_one (gw_b_lt h6 _ _), lS_or]
    exact ⟨_, _, rfl, rfl⟩
theorem seeds_run {sc sm : XS} {n : Nat} {A B C : Nat → Int} (h1 : cL sc n A B C) (hm : mL sm n A B C) (hn : sm.1 0 0 = zI (n : Int)) {w : Nat} (hw : w ≤ 30) : ∀ (d k : Nat) (v : Int32) (S : Nat → Bool) (fuel : Nat), k + d = w → d < fuel → ∃ S2, xo_lp (fun q : (Int32 × Int64 × Int32) => F_All_seeds_b33 (zI (w : Int)) sc q.1 q.2.1 q.2.2) fuel (v, lS S, zI (k : Int)) = some (lS S2) ∧ xo_lp (fun q : (Int32 × Int64 × Int32) => F_Mod_seeds_b33 (zI (w : Int)) sm q.1 q.2.1 q.2.2) fuel (v, lS S, zI (k : Int)) = some (lS S2) := by
  intro d
  induction d with
  | zero =>
    intro k v S fuel hk hf
    obtain ⟨m, rfl⟩ : ∃ m, fuel = m + 1 := ⟨fuel - 1, by omega⟩
    obtain rfl : k = w := by omega
    refine ⟨S, ?_, ?_⟩
    · unfold xo_lp
      dsimp only
      unfold F_All_seeds_b33
      rw [if_pos (zI_rfl _)]; rfl
    · unfold xo_lp
      dsimp only
      unfold F_Mod_seeds_b33
      rw [if_pos (zI_rfl _)]; rfl
  | succ d ih =>
    intro k v S fuel hk hf
    obtain ⟨m, rfl⟩ : ∃ m, fuel = m + 1 := ⟨fuel - 1, by omega⟩
    obtain ⟨v2, S2, g1, g2⟩ := seeds_step h1 hm hn hw k v S (by omega)
    obtain ⟨S3, i1, i2⟩ := ih (k + 1) v2 S2 m (by omega) (by omega)
    refine ⟨S3, ?_, ?_⟩
    · rw [xo_lp]
      dsimp only
      rw [g1]; exact i1
    · rw [xo_lp]
      dsimp only
      rw [g2]; exact i2
theorem s_seeds (sc sm : XS) (x1 x2 : Int32) (h : xz_RR sc sm) : ∃ (r : Int32) (sc2 sm2 : XS), F_All_seeds x1 x2 sc = some (r, sc2) ∧ F_Mod_seeds x1 x2 sm = some (r, sm2) ∧ xz_RR sc2 sm2 := by
  obtain ⟨x, hx, rfl⟩ := zI_of x1
  have hq := h
  obtain ⟨⟨n, A, B, C, Kd, P, X, Y, h1, hok, hpl, hkd, hp, hn, hm, hpm⟩, h2, h3, h4, h5⟩ := h
  have h6 := h1.2.1
  have k1 : (1 : Int32) ≤ zI x ↔ 1 ≤ x := zi_le (by decide) hx _ _ rfl rfl
  have k2 : zI x ≤ (30 : Int32) ↔ x ≤ 30 := zi_le hx (by decide) _ _ rfl rfl
  unfold F_All_seeds F_Mod_seeds
  simp only [k1, k2]
  by_cases c1 : 1 ≤ x
  · rw [if_pos c1, if_pos c1]
    by_cases c2 : x ≤ 30
    · obtain ⟨w, rfl⟩ : ∃ w : Nat, x = w := ⟨x.toNat, by omega⟩
      rw [if_pos c2, if_pos c2]
      have e0 : ((0 : Int64), (0 : Int32)) = (lS (fun _ => false), zI ((0 : Nat) : Int)) := by rw [lS_0]; rfl
      obtain ⟨S2, r1, r2⟩ := seeds_run h1 hm hn (show w ≤ 30 by omega) w 0 x2 (fun _ => false) 1000000 (by omega) (by omega)
      rw [e0, r1, r2, Option.bind_some, Option.bind_some, e_count]
      exact ⟨_, _, _, rfl, rfl, hq⟩
    · rw [if_neg c2, if_neg c2]
      exact st_no6 hq
  · rw [if_neg c1, if_neg c1]
    exact st_no4 hq
def fi (P : Nat → Bool) : Nat → Int
  | 0 => -9
  | n + 1 => if fi P n = -9 then (if P n = true then (n : Int) else -9) else fi P n
theorem fi_suc (P : Nat → Bool) (n : Nat) : fi P (n + 1) = if fi P n = -9 then (if P n = true then (n : Int) else -9) else fi P n := rfl
theorem fi_hit {P : Nat → Bool} {i : Nat} (h : fi P i = -9) (hp : P i = true) : ∀ {l : Nat}, i < l → fi P l = (i : Int)
  | 0, hl => absurd hl (Nat.not_lt_zero i)
  | l + 1, hl => by
    rw [fi_suc]
    by_cases e : i = l
    · subst e
      rw [if_pos h, if_pos hp]
    · rw [fi_hit h hp (l := l) (by omega), if_neg (by omega)]
