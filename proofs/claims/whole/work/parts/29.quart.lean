/-! THE QUARTERS AND THE OPEN ONES, as the class counts them -/
theorem lp_inv {σ ρ : Type} {f : σ → Option (σ ⊕ ρ)} (I : Nat → σ → Prop) (Q : ρ → Prop) : ∀ (N fuel : Nat) (x0 : σ), N < fuel → I 0 x0 → (∀ i x, i < N → I i x → ∃ y, f x = some (.inl y) ∧ I (i + 1) y) → (∀ x, I N x → ∃ r, f x = some (.inr r) ∧ Q r) → ∃ r, xo_lp f fuel x0 = some r ∧ Q r := by
  intro N
  induction N generalizing I with
  | zero =>
    intro fuel x0 hf h0 _ he
    obtain ⟨m, rfl⟩ : ∃ m, fuel = m + 1 := ⟨fuel - 1, by omega⟩
    obtain ⟨r, h1, h2⟩ := he x0 h0
    refine ⟨r, ?_, h2⟩
    show (f x0).bind _ = _
    rw [h1]; rfl
  | succ N ih =>
    intro fuel x0 hf h0 hs he
    obtain ⟨m, rfl⟩ : ∃ m, fuel = m + 1 := ⟨fuel - 1, by omega⟩
    obtain ⟨y, h1, h2⟩ := hs 0 x0 (by omega) h0
    obtain ⟨r, h3, h4⟩ := ih (fun i => I (i + 1)) m y (by omega) h2 (fun i x hi hx => hs (i + 1) x (by omega) hx) he
    refine ⟨r, ?_, h4⟩
    show (f x0).bind _ = _
    rw [h1]; exact h3
theorem cL_of {st t : XS} {n : Nat} {A B C : Nat → Int} (h : cL st n A B C) (e : t.1 = st.1) : cL t n A B C := by
  unfold cL at *
  rw [e]; exact h
def gq_two (c : Nat → Bool) (s m : Nat) : Bool := c m || (decide (2 ^ s ≤ m) && c (m - 2 ^ s))
theorem e_both (c : Nat → Bool) {s : Nat} (hs : s < 6) : F_Pla_onBothSides (lS c) (zI (s : Int)) = some (lS (gq_two c s)) := by
  unfold F_Pla_onBothSides
  rw [lS_shl c hs, lS_or]; rfl
def gc_back (A B : Nat → Int) (p q : Int) (n : Nat) : Nat := bm (fun s => decide (0 < -1 * gz_t A B p q s)) n
def gq_cs (A B C : Nat → Int) (n s : Nat) : Nat → Bool := gc_K A B C (A s) (B s) (C s) n n
def gq_es (A B : Nat → Int) (n s m : Nat) : Bool := decide (m = gc_far A B (A s) (B s) n) || decide (m = gc_back A B (A s) (B s) n)
def gq_Q (A B C : Nat → Int) (n i m : Nat) : Bool := (decide (n = 0) && decide (m = 0)) || an (fun s => gq_two (gq_cs A B C n s) s m) i
def gq_O (A B : Nat → Int) (n i m : Nat) : Bool := (decide (n = 0) && decide (m = 0)) || an (fun s => gq_two (gq_es A B n s) s m) i
theorem e_quart {st : XS} {n : Nat} {A B C : Nat → Int} (h : cL st n A B C) : ∃ t, F_Pla_measureQuarters st = some t ∧ t.1 = st.1 ∧ t.2 0 = lS (gq_Q A B C n n) ∧ t.2 1 = lS (gq_O A B n n) := by
  have h6 := h.2.1
  have key : ∀ k1 : Int64, k1 = lS (fun m => decide (n = 0) && decide (m = 0)) → ∃ t, F_Pla_measureQuarters_m16 k1 st = some t ∧ t.1 = st.1 ∧ t.2 0 = lS (gq_Q A B C n n) ∧ t.2 1 = lS (gq_O A B n n) := by
    intro k1 hk
    unfold F_Pla_measureQuarters_m16
    rw [xo_nm_b, xo_nm_b]
    suffices hl : ∃ r, xo_lp (fun q : (Int32 × XS) => F_Pla_measureQuarters_b29 q.1 q.2) 1000000 ((0 : Int32), xs_L (xs_L st 0 k1) 1 ((xs_L st 0 k1).2 0)) = some r ∧ (r.1 = st.1 ∧ r.2 0 = lS (gq_Q A B C n n) ∧ r.2 1 = lS (gq_O A B n n)) by
      obtain ⟨r, h1, h2⟩ := hl
      rw [h1]; exact ⟨r, rfl, h2⟩
    refine lp_inv (fun (i : Nat) (x : Int32 × XS) => x.1 = zI (i : Int) ∧ x.2.1 = st.1 ∧ x.2.2 0 = lS (gq_Q A B C n i) ∧ x.2.2 1 = lS (gq_O A B n i)) (fun t : XS => t.1 = st.1 ∧ t.2 0 = lS (gq_Q A B C n n) ∧ t.2 1 = lS (gq_O A B n n)) n 1000000 _ (by omega) ?_ ?_ ?_
    · refine ⟨rfl, rfl, ?_, ?_⟩
      · show k1 = _
        rw [hk]
        apply lS_cong
        intro m _
        unfold gq_Q
        rw [an, Bool.or_false]
      · show k1 = _
        rw [hk]
        apply lS_cong
        intro m _
        unfold gq_O
        rw [an, Bool.or_false]
    · rintro i ⟨x, t⟩ hi ⟨e1, e2, e3, e4⟩
      dsimp only at e1 e2 e3 e4 ⊢
      subst e1
      have ht := cL_of h e2
      obtain ⟨g1, g2, g3⟩ := ht.2.2.1 i hi
      obtain ⟨b1, b2, b3⟩ := h.2.2.2 i hi
      unfold F_Pla_measureQuarters_b29
      have f1 := e_far ht b1 b2 (show ab 1 1 from Nat.le_refl 1)
      have f2 := e_far ht b1 b2 (show ab 1 (-1) from Nat.le_refl 1)
      rw [show zI 1 = (1 : Int32) from rfl] at f1
      rw [show zI (-1) = (-1 : Int32) from rfl] at f2
      rw [ht.1, if_neg (zI_ge1 (by omega) hi), xo_rd_z (by omega) (by decide), Option.bind_some, xo_rd_z (by omega) (by decide), Option.bind_some, g1, g2, f1, Option.bind_some, f2, Option.bind_some]
      have v1 : gc_far A B (A i) (B i) n < 64 := Nat.lt_of_lt_of_le (bm_lt _ _) (p2_64 h6)
      have v2 : gc_back A B (A i) (B i) n < 64 := Nat.lt_of_lt_of_le (bm_lt _ _) (p2_64 h6)
      have w1 : bm (fun s => decide (0 < 1 * gz_t A B (A i) (B i) s)) n = gc_far A B (A i) (B i) n := rfl
      have w2 : bm (fun s => decide (0 < -1 * gz_t A B (A i) (B i) s)) n = gc_back A B (A i) (B i) n := rfl
      rw [w1, w2, lS_one v1, lS_one v2, lS_or, xo_nm_b, xo_rd_z (by omega) (by decide), Option.bind_some, g3, e_cut ht b1 b2 b3, Option.bind_some, e_both _ (by omega), Option.bind_some, xo_nm_b, e_both _ (by omega), Option.bind_some, xo_nm_b, xo_nm_b]
      refine ⟨_, rfl, zI_suc i, e2, ?_, ?_⟩
      · show t.2 0 ||| _ = _
        rw [e3, lS_or]
        apply lS_cong
        intro m _
        unfold gq_Q
        rw [an, ← Bool.or_assoc]; rfl
      · show t.2 1 ||| _ = _
        rw [e4, lS_or]
        apply lS_cong
        intro m _
        unfold gq_O
        rw [an, ← Bool.or_assoc]; rfl
    · rintro ⟨x, t⟩ ⟨e1, e2, e3, e4⟩
      dsimp only at e1 e2 e3 e4 ⊢
      subst e1
      have ht := cL_of h e2
      unfold F_Pla_measureQuarters_b29
      rw [ht.1, if_pos (zI_rfl _)]
      exact ⟨t, rfl, e2, e3, e4⟩
  unfold F_Pla_measureQuarters
  rw [h.1, zI_0]
  by_cases hn : n = 0
  · rw [if_pos (by rw [hn]; rfl)]
    apply key
    rw [lS_1]
    apply lS_cong
    intro m _
    simp [hn]
  · rw [if_neg (by rw [zI_eq (zB_n (by omega)) (by decide)]; omega)]
    apply key
    rw [lS_0]
    apply lS_cong
    intro m _
    simp [hn]
