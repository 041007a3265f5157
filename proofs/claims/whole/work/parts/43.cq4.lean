/-! the class: sets of quarters with plots, and without a street -/
theorem off_z : ∀ q, q < 64 → ∀ s, s < 6 → (zI ((q : Nat) : Int) &&& (((1 : Int32) <<< (zI ((s : Nat) : Int) &&& 31)) ^^^ (-1 : Int32))) = zI ((gz_off q s : Nat) : Int) ∧ gz_off q s < 64 := by decide +kernel
def gq_W (Q : Nat → Bool) (s k m : Nat) : Bool := an (fun q => Q q && decide (m = gz_off q s)) k
theorem e_qWithout {st : XS} {Q : Nat → Bool} (hQ : st.2 0 = lS Q) {s : Nat} (hs : s < 6) : F_Pla_quartersWithout (zI (s : Int)) st = some (zI ((fb_ct (gq_W Q s 64) 64 : Nat) : Int)) := by
  unfold F_Pla_quartersWithout
  rw [lp_go (fun i => (lS (gq_W Q s i), zI (i : Int))) 64 (lS (gq_W Q s 64)) (by rw [lS_0]; rfl) (by omega) (fun k hk => ?_) ?_, e_count]; rfl
  · unfold F_Pla_quartersWithout_b5
    dsimp only
    rw [zI_64, if_pos (zI_rfl _)]
  · unfold F_Pla_quartersWithout_b5
    dsimp only
    rw [zI_64, if_neg (zI_ge1 (by omega) hk), e_hasQn hQ hk, Option.bind_some]
    obtain ⟨h1, h2⟩ := off_z k hk s hs
    by_cases hq : Q k = true
    · rw [if_pos hq, if_neg (by decide), h1, lS_one h2, lS_or, xo_nm_b, xo_nm_b, zI_suc]
      congr 3
      apply lS_cong
      intro m _
      unfold gq_W
      rw [an_suc, hq, Bool.true_and]
    · rw [if_neg hq, if_pos (show zI 0 = 0 from rfl), xo_nm_b, zI_suc]
      congr 3
      apply lS_cong
      intro m _
      unfold gq_W
      rw [an_suc]
      simp [hq]
def gq_P (A B C X Y : Nat → Int) (n P m : Nat) : Bool := an (fun p => decide ((m : Int) = gw A B C n (X p) (Y p))) P
theorem gw_9 {A B C : Nat → Int} {n : Nat} (h6 : n ≤ 6) (x y : Int) : (zI (gw A B C n x y) = (-9 : Int32)) ↔ gw_z A B C n x y = true := by
  have h1 : (-9 : Int32) = zI (-9) := rfl
  rw [h1, zI_eq (gw_B h6 x y) (by decide)]
  unfold gw
  constructor
  · intro h
    split at h
    · assumption
    · omega
  · intro h
    rw [if_pos h]
theorem gw_n {A B C : Nat → Int} {n : Nat} {x y : Int} (h : ¬ gw_z A B C n x y = true) : gw A B C n x y = (gw_b A B C n x y : Int) := by
  unfold gw; rw [if_neg h]
theorem gw_p {A B C : Nat → Int} {n : Nat} {x y : Int} (h : gw_z A B C n x y = true) : gw A B C n x y = -9 := by
  unfold gw; rw [if_pos h]
theorem e_qWithPlots {st : XS} {n P : Nat} {A B C X Y : Nat → Int} (h : cL st n A B C) (g : pL st P X Y) : F_Pla_quartersWithPlots st = some (lS (gq_P A B C X Y n P)) := by
  have h6 := h.2.1
  have h8 := g.2.1
  unfold F_Pla_quartersWithPlots
  rw [lp_go (fun i => (lS (gq_P A B C X Y n i), zI (i : Int))) P (lS (gq_P A B C X Y n P)) (by rw [lS_0]; rfl) (by omega) (fun k hk => ?_) ?_]
  · unfold F_Pla_quartersWithPlots_b4
    dsimp only
    rw [g.1, if_pos (zI_rfl _)]
  · unfold F_Pla_quartersWithPlots_b4
    dsimp only
    rw [g.1, if_neg (zI_ge1 (by omega) hk), e_qPlot h g hk, Option.bind_some]
    by_cases hz : gw_z A B C n (X k) (Y k) = true
    · rw [if_pos ((gw_9 h6 _ _).mpr hz), xo_nm_b, zI_suc]
      congr 3
      apply lS_cong
      intro m _
      unfold gq_P
      rw [an_suc, gw_p hz]
      have : ¬ (m : Int) = -9 := by omega
      simp [this]
    · rw [if_neg (fun z => hz ((gw_9 h6 _ _).mp z)), gw_n hz, lS_one (gw_b_lt h6 _ _), lS_or, xo_nm_b, xo_nm_b, zI_suc]
      congr 3
      apply lS_cong
      intro m _
      unfold gq_P
      rw [an_suc, gw_n hz]
      congr 1
      by_cases e : m = gw_b A B C n (X k) (Y k)
      · rw [decide_eq_true e, decide_eq_true (by omega)]
      · rw [decide_eq_false e, decide_eq_false (by omega)]
