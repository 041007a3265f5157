/-! squares -/
theorem ct_bm (P : Nat → Bool) {n k : Nat} (h : n ≤ k) : fb_ct (bm P n).testBit k = fb_ct P n := by
  obtain ⟨d, rfl⟩ : ∃ d, k = n + d := ⟨k - n, by omega⟩
  have h1 : fb_ct (bm P n).testBit n = fb_ct P n := fb_ct_cong (fun s hs => by rw [bm_tb]; simp [hs])
  have h2 : fb_ct (fun s => (bm P n).testBit (n + s)) d = 0 := by
    rw [fb_ct_zero]
    intro s _
    have h3 : ¬ n + s < n := by omega
    rw [bm_tb, decide_eq_false h3, Bool.false_and]
  rw [fb_ct_split, h1, h2, Nat.add_zero]
def gp_th (A B C : Nat → Int) (n : Nat) (x : Nat × Nat) : Nat := fb_ct (fun s => decide (gz_p A B C x.1 x.2 s = 0)) n
theorem e_isSq {st : XS} {n : Nat} {A B C : Nat → Int} {L : List (Nat × Nat)} (h6 : n ≤ 6) (hP : gP A B C n st L) (hl : L.length ≤ 15) {k : Nat} (hk : k < L.length) : F_Pla_isSquare (zI (k : Int)) st = some (zI (if 3 ≤ gp_th A B C n (L.getD k (0, 0)) then 1 else 0)) := by
  obtain ⟨-, -, -, g4, -⟩ := gP_at hP hk
  unfold F_Pla_isSquare
  rw [xo_rd_z (by omega) (by decide), Option.bind_some, g4]
  generalize L.getD k (0, 0) = x
  have hb : bm (fun s => decide (gz_p A B C x.1 x.2 s = 0)) n < 64 := Nat.lt_of_lt_of_le (bm_lt _ n) (p2_64 h6)
  rw [e_icount _ (by omega), Option.bind_some, ct_bm _ (by omega)]
  have h3 : (3 : Int32) = zI 3 := rfl
  have hle := fb_ct_le (fun s => decide (gz_p A B C x.1 x.2 s = 0)) n
  unfold gp_th
  rw [h3]
  by_cases hc : 3 ≤ fb_ct (fun s => decide (gz_p A B C x.1 x.2 s = 0)) n
  · rw [if_neg (by rw [zI_lt (zB_n (by omega)) (by decide)]; omega), if_pos hc]; rfl
  · rw [if_pos (by rw [zI_lt (zB_n (by omega)) (by decide)]; omega), if_neg hc]; rfl
