/-! all points are kept -/
theorem gU_trans {a b c : XS} (h : gU a b) (g : gU b c) : gU a c := ⟨g.1.trans h.1, fun k hk => (g.2 k hk).trans (h.2 k hk)⟩
theorem e_pstep {st : XS} {n : Nat} {A B C : Nat → Int} {L : List (Nat × Nat)} (h : cL st n A B C) (hP : gP A B C n st L) (hl : L.length < 15) {i j : Nat} (hij : i < j) (hj : j < n) : ∃ t, F_Pla_measurePoints_b22 (zI (i : Int)) (zI (j : Int)) st = some (.inl (zI ((j + 1 : Nat) : Int), t)) ∧ gU st t ∧ gP A B C n t (L ++ (if gp_f A B C i j then [(i, j)] else [])) := by
  have h6 := h.2.1
  have hi : i < n := by omega
  obtain ⟨a1, a2, a3⟩ := h.2.2.2 i hi
  obtain ⟨bX, bY, bW⟩ := gX_ab h.2.2.2 a1 a2 a3 hj
  unfold F_Pla_measurePoints_b22
  have ht := e_through h bX bY bW
  have e : bm (fun s => decide (gz_h A B C s (gz_X A B C (A i) (B i) (C i) j) (gz_Y A B C (A i) (B i) (C i) j) (gz_W A B (A i) (B i) j) = 0)) n = bm (fun s => decide (gz_p A B C i j s = 0)) n := rfl
  rw [e] at ht
  rw [h.1, if_neg (zI_ge1 (by omega) hj), e_cX h hi hj, Option.bind_some, e_cY h hi hj, Option.bind_some, e_cW h hi hj, Option.bind_some, ht, Option.bind_some]
  by_cases hf : gp_f A B C i j = true
  · rw [if_pos ((gp_first hij hj h6).mpr hf), if_pos hf]
    exact e_store h hP hl hi hj
  · rw [if_neg (fun z => hf ((gp_first hij hj h6).mp z)), if_neg hf, List.append_nil]
    unfold F_Pla_measurePoints_m95
    rw [if_pos rfl, xo_nm_b, zI_suc]
    exact ⟨st, rfl, ⟨rfl, fun _ _ => rfl⟩, hP⟩
theorem e_prow {st : XS} {n : Nat} {A B C : Nat → Int} (h : cL st n A B C) {i : Nat} (hi : i < n) (hP : gP A B C n st (gp_ls A B C n i)) : ∃ t, xo_lp (fun q : (Int32 × XS) => F_Pla_measurePoints_b22 (zI (i : Int)) q.1 q.2) 1000000 (zI ((i + 1 : Nat) : Int), st) = some t ∧ (gU st t ∧ gP A B C n t (gp_ls A B C n (i + 1))) := by
  have h6 := h.2.1
  refine lp_inv (fun (d : Nat) (x : Int32 × XS) => x.1 = zI ((i + 1 + d : Nat) : Int) ∧ gU st x.2 ∧ gP A B C n x.2 (gp_ls A B C n i ++ gp_rw A B C i d)) (fun t : XS => gU st t ∧ gP A B C n t (gp_ls A B C n (i + 1))) (n - (i + 1)) 1000000 _ (by omega) ?_ ?_ ?_
  · refine ⟨rfl, ⟨rfl, fun _ _ => rfl⟩, ?_⟩
    rw [gp_rw, List.append_nil]; exact hP
  · rintro d ⟨x, t⟩ hd ⟨e1, e2, e3⟩
    dsimp only at e1 e2 e3 ⊢
    subst e1
    have hlen : (gp_ls A B C n i ++ gp_rw A B C i d).length < 15 := by
      have l1 := gp_ls_len A B C h6 i
      have l2 := gp_rw_len A B C i d
      have l3 := gp_b_le i (by omega)
      rw [List.length_append]; omega
    obtain ⟨t2, g1, g2, g3⟩ := e_pstep (cL_u h e2) e3 hlen (i := i) (j := i + 1 + d) (by omega) (by omega)
    refine ⟨_, g1, rfl, gU_trans e2 g2, ?_⟩
    rw [gp_rw, ← List.append_assoc]
    exact g3
  · rintro ⟨x, t⟩ ⟨e1, e2, e3⟩
    dsimp only at e1 e2 e3 ⊢
    subst e1
    have e : i + 1 + (n - (i + 1)) = n := by omega
    unfold F_Pla_measurePoints_b22
    rw [(cL_u h e2).1, e, if_pos (zI_rfl _)]
    exact ⟨t, rfl, e2, e3⟩
theorem e_points {st : XS} {n : Nat} {A B C : Nat → Int} (h : cL st n A B C) : ∃ t, F_Pla_measurePoints st = some t ∧ gU st t ∧ gP A B C n t (gp_ls A B C n n) := by
  have h6 := h.2.1
  unfold F_Pla_measurePoints
  rw [xo_nm_b]
  suffices hl : ∃ r, xo_lp (fun q : (Int32 × XS) => F_Pla_measurePoints_b7 q.1 q.2) 1000000 ((0 : Int32), xs_I st 22 3 (0 : Int32)) = some r ∧ (gU st r ∧ gP A B C n r (gp_ls A B C n n)) by
    obtain ⟨r, h1, h2⟩ := hl
    rw [h1]; exact ⟨r, rfl, h2⟩
  refine lp_inv (fun (i : Nat) (x : Int32 × XS) => x.1 = zI (i : Int) ∧ gU st x.2 ∧ gP A B C n x.2 (gp_ls A B C n i)) (fun r : XS => gU st r ∧ gP A B C n r (gp_ls A B C n n)) n 1000000 _ (by omega) ?_ ?_ ?_
  · refine ⟨rfl, ⟨rfl, fun k hk => ?_⟩, ?_, fun k i j hk => ?_⟩
    · have : ¬ k = 22 := by omega
      simp [xs_I, this]
    · simp [xs_I, upd, gp_ls]; rfl
    · simp [gp_ls] at hk
  · rintro i ⟨x, t⟩ hi ⟨e1, e2, e3⟩
    dsimp only at e1 e2 e3 ⊢
    subst e1
    have ht := cL_u h e2
    obtain ⟨t2, g1, g2, g3⟩ := e_prow ht hi e3
    unfold F_Pla_measurePoints_b7
    rw [ht.1, if_neg (zI_ge1 (by omega) hi), zI_suc, xo_nm_b, g1, Option.bind_some, xo_nm_b]
    exact ⟨_, rfl, rfl, gU_trans e2 g2, g3⟩
  · rintro ⟨x, t⟩ ⟨e1, e2, e3⟩
    dsimp only at e1 e2 e3 ⊢
    subst e1
    unfold F_Pla_measurePoints_b7
    rw [(cL_u h e2).1, if_pos (zI_rfl _)]
    exact ⟨t, rfl, e2, e3⟩
