/-! corners, as the class counts them -/
def gp_g (A B C : Nat → Int) (n q : Nat) (x : Nat × Nat) : Bool := decide (q &&& ((bm (fun s => decide (gz_p A B C x.1 x.2 s = 0)) n) ^^^ 4294967295) = bm (fun s => decide (0 < gz_p A B C x.1 x.2 s)) n)
theorem gp_g_iff {A B C : Nat → Int} {n q : Nat} (hn : n ≤ 7) (hq : q < 2 ^ n) {x : Nat × Nat} : gp_g A B C n q x = true ↔ gz_agr A B C n x.1 x.2 q := by
  unfold gp_g gz_agr
  rw [decide_eq_true_eq]
  have hM : ∀ t, t < 32 → (4294967295 : Nat).testBit t = true := by decide
  constructor
  · intro h t ht hne
    have h1 := congrArg (fun m => m.testBit t) h
    simp only [Nat.testBit_and, Nat.testBit_xor, bm_tb, hM t (by omega)] at h1
    simp [ht, hne] at h1
    rw [h1, decide_eq_true_eq]
  · intro h
    apply Nat.eq_of_testBit_eq
    intro t
    rw [Nat.testBit_and, Nat.testBit_xor, bm_tb, bm_tb]
    by_cases ht : t < n
    · rw [hM t (by omega)]
      by_cases hz : gz_p A B C x.1 x.2 t = 0
      · simp [ht, hz]
      · have h1 := h t ht hz
        by_cases hp : 0 < gz_p A B C x.1 x.2 t
        · simp [ht, hz, hp, h1.mpr hp]
        · have : q.testBit t = false := by
            cases hb : q.testBit t with
            | false => rfl
            | true => exact absurd (h1.mp hb) hp
          simp [ht, hz, hp, this]
    · have h1 : q.testBit t = false := Nat.testBit_lt_two_pow (Nat.lt_of_lt_of_le hq (Nat.pow_le_pow_right (by decide) (by omega)))
      simp [ht, h1]
theorem e_corners {st : XS} {n : Nat} {A B C : Nat → Int} (h6 : n ≤ 6) (hP : gP A B C n st (gp_ls A B C n n)) {q : Nat} (hq : q < 64) : F_Pla_cornersOf (zI (q : Int)) st = some (zI ((ls_sm (fun x => if gp_g A B C n q x then 1 else 0) (gp_ls A B C n n) : Nat) : Int)) := by
  have h15 := gp_ls_15 A B C h6
  generalize hL : gp_ls A B C n n = L at *
  unfold F_Pla_cornersOf
  rw [lp_cnt (fun k => gp_g A B C n q (L.getD k (0, 0))) L.length (by omega) (fun k c hk => ?_) (fun c => ?_), ls_ct]
  · unfold F_Pla_cornersOf_b4
    dsimp only
    obtain ⟨-, -, -, g4, g5⟩ := gP_at hP hk
    rw [hP.1, if_neg (zI_ge1 (by omega) hk), xo_rd_z (by omega) (by decide), Option.bind_some, xo_rd_z (by omega) (by decide), Option.bind_some, g4, g5]
    generalize L.getD k (0, 0) = x
    have e1 : (-1 : Int32) = zI ((4294967295 : Nat) : Int) := by decide
    rw [e1, zI_xor, zI_and, xo_nm_b, xo_nm_b, xo_nm_b, zI_suc, zI_suc]
    have hb : ∀ P : Nat → Bool, bm P n < 64 := fun P => Nat.lt_of_lt_of_le (bm_lt P n) (p2_64 h6)
    have hand : q &&& (bm (fun s => decide (gz_p A B C x.1 x.2 s = 0)) n ^^^ 4294967295) ≤ q := Nat.and_le_left
    have hc : (zI ((q &&& (bm (fun s => decide (gz_p A B C x.1 x.2 s = 0)) n ^^^ 4294967295) : Nat) : Int) = zI ((bm (fun s => decide (0 < gz_p A B C x.1 x.2 s)) n : Nat) : Int)) ↔ gp_g A B C n q x = true := by
      have := hb (fun s => decide (0 < gz_p A B C x.1 x.2 s))
      rw [zI_eq (zB_n (by omega)) (zB_n (by omega)), Int.ofNat_inj]
      unfold gp_g
      rw [decide_eq_true_eq]
    by_cases hg : gp_g A B C n q x = true
    · rw [if_pos (hc.mpr hg), if_pos hg]
    · rw [if_neg (fun z => hg (hc.mp z)), if_neg hg]; rfl
  · unfold F_Pla_cornersOf_b4
    dsimp only
    rw [hP.1, if_pos (zI_rfl _)]
