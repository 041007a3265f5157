/-! a point is kept -/
theorem e_store {st : XS} {n : Nat} {A B C : Nat → Int} {L : List (Nat × Nat)} (h : cL st n A B C) (hP : gP A B C n st L) (hl : L.length < 15) {i j : Nat} (hi : i < n) (hj : j < n) : ∃ t, F_Pla_measurePoints_m95 (zI (i : Int)) (zI (j : Int)) (zI (gz_X A B C (A i) (B i) (C i) j)) (zI (gz_Y A B C (A i) (B i) (C i) j)) (zI (gz_W A B (A i) (B i) j)) (zI ((bm (fun s => decide (gz_p A B C i j s = 0)) n : Nat) : Int)) 1 st = some (.inl (zI ((j + 1 : Nat) : Int), t)) ∧ gU st t ∧ gP A B C n t (L ++ [(i, j)]) := by
  obtain ⟨hc, hk⟩ := hP
  obtain ⟨a1, a2, a3⟩ := h.2.2.2 i hi
  obtain ⟨bX, bY, bW⟩ := gX_ab h.2.2.2 a1 a2 a3 hj
  have e15 : (15 : Int32) = zI 15 := rfl
  have hb : zB (L.length : Int) := zB_n (by omega)
  generalize hs : bm (fun s => decide (0 < gz_p A B C i j s)) n = sd
  generalize hm : bm (fun s => decide (gz_p A B C i j s = 0)) n = mt
  generalize hX : gz_X A B C (A i) (B i) (C i) j = X at *
  generalize hY : gz_Y A B C (A i) (B i) (C i) j = Y at *
  generalize hW : gz_W A B (A i) (B i) j = W at *
  refine ⟨xs_I (xs_A (xs_A (xs_A (xs_A (xs_A st 23 (upd (st.1 23) L.length (zI X))) 24 (upd (st.1 24) L.length (zI Y))) 25 (upd (st.1 25) L.length (zI W))) 26 (upd (st.1 26) L.length (zI (mt : Int)))) 27 (upd (st.1 27) L.length (zI (sd : Int)))) 22 3 (zI ((L.length + 1 : Nat) : Int)), ?_, ⟨rfl, fun k hk2 => ?_⟩, (by simp [xs_I, xs_A, upd]), fun k i2 j2 hk2 => ?_⟩
  · unfold F_Pla_measurePoints_m95
    rw [if_neg (by decide), hc, e15, if_neg (by rw [zI_le (by decide) hb]; omega)]
    have hsd : ∀ t : XS, cL t n A B C → F_Pla_sidesOfPoint (zI X) (zI Y) (zI W) t = some (zI (sd : Int)) := fun t ht => by
      rw [e_sides ht bX bY bW, ← hs]
      congr 4
      funext s
      rw [← hX, ← hY, ← hW]; rfl
    have hsd2 : ∀ f : Nat → Nat → Int32, (∀ k, k < 22 → f k = st.1 k) → F_Pla_sidesOfPoint (zI X) (zI Y) (zI W) (f, st.2) = some (zI (sd : Int)) := fun f hf => by
      apply hsd
      unfold cL at *
      dsimp only
      rw [hf 1 (by omega), hf 3 (by omega), hf 4 (by omega), hf 5 (by omega)]
      exact h
    simp only [xo_nm_b, xo_ck_z hl (show 15 < 2147483648 by decide), zI_cl (show L.length < 2147483648 by omega), Option.bind_some, xs_A, xs_I, hc, reduceIte, Nat.reduceEqDiff]
    rw [hsd2 _ (fun k hk => by
      have h23 : ¬ k = 23 := by omega
      have h24 : ¬ k = 24 := by omega
      have h25 : ¬ k = 25 := by omega
      have h26 : ¬ k = 26 := by omega
      simp [h23, h24, h25, h26])]
    simp only [Option.bind_some, zI_suc]
  · have h23 : ¬ k = 23 := by omega
    have h24 : ¬ k = 24 := by omega
    have h25 : ¬ k = 25 := by omega
    have h26 : ¬ k = 26 := by omega
    have h27 : ¬ k = 27 := by omega
    have h22 : ¬ k = 22 := by omega
    simp [xs_I, xs_A, h22, h23, h24, h25, h26, h27]
  · rw [List.getElem?_append] at hk2
    by_cases hkl : k < L.length
    · rw [if_pos hkl] at hk2
      have hne : ¬ k = L.length := by omega
      simpa [xs_I, xs_A, upd, hne] using hk k i2 j2 hk2
    · rw [if_neg hkl] at hk2
      have hk0 : k = L.length := by
        by_cases e : k - L.length = 0
        · omega
        · obtain ⟨d, hd⟩ : ∃ d, k - L.length = d + 1 := ⟨k - L.length - 1, by omega⟩
          rw [hd] at hk2; simp at hk2
      subst hk0
      rw [Nat.sub_self] at hk2
      simp at hk2
      obtain ⟨e1, e2⟩ := hk2
      subst e1; subst e2
      simp [xs_I, xs_A, upd, hX, hY, hW, hm, hs]
