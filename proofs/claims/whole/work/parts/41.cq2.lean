/-! loops that may end early -/
theorem lp_ex {σ ρ : Type} {f : σ → Option (σ ⊕ ρ)} (I : Nat → σ → Prop) (Q : ρ → Prop) : ∀ (N fuel : Nat) (x0 : σ), N < fuel → I 0 x0 → (∀ i x, i < N → I i x → (∃ y, f x = some (.inl y) ∧ I (i + 1) y) ∨ (∃ r, f x = some (.inr r) ∧ Q r)) → (∀ x, I N x → ∃ r, f x = some (.inr r) ∧ Q r) → ∃ r, xo_lp f fuel x0 = some r ∧ Q r := by
  intro N
  induction N generalizing I with
  | zero =>
    intro fuel x0 hf h0 _ he
    obtain ⟨m, rfl⟩ : ∃ m, fuel = m + 1 := ⟨fuel - 1, by omega⟩
    obtain ⟨r, h1, h2⟩ := he x0 h0
    refine ⟨r, ?_, h2⟩
    show (f x0).bind _ = _
    rw [h1]; rfl
  | succ N ih =>
    intro fuel x0 hf h0 hs he
    obtain ⟨m, rfl⟩ : ∃ m, fuel = m + 1 := ⟨fuel - 1, by omega⟩
    rcases hs 0 x0 (by omega) h0 with ⟨y, h1, h2⟩ | ⟨r, h1, h2⟩
    · obtain ⟨r, h3, h4⟩ := ih (fun i => I (i + 1)) m y (by omega) h2 (fun i x hi hx => hs (i + 1) x (by omega) hx) he
      refine ⟨r, ?_, h4⟩
      show (f x0).bind _ = _
      rw [h1]; exact h3
    · refine ⟨r, ?_, h2⟩
      show (f x0).bind _ = _
      rw [h1]; rfl
theorem an_suc (P : Nat → Bool) (n : Nat) : an P (n + 1) = (an P n || P n) := rfl
theorem lp_find {ρ : Type} {f : Int32 → Option (Int32 ⊕ ρ)} (P : Nat → Bool) (r1 r2 : ρ) (N : Nat) (hN : N < 1000000) (hs : ∀ k : Nat, k < N → f (zI (k : Int)) = if P k = true then some (.inr r1) else some (.inl (zI ((k + 1 : Nat) : Int)))) (he : f (zI (N : Int)) = some (.inr r2)) : xo_lp f 1000000 (0 : Int32) = some (if an P N = true then r1 else r2) := by
  suffices h : ∃ r, xo_lp f 1000000 (0 : Int32) = some r ∧ r = (if an P N = true then r1 else r2) by
    obtain ⟨r, h1, h2⟩ := h
    rw [h1, h2]
  refine lp_ex (fun (k : Nat) (x : Int32) => x = zI (k : Int) ∧ an P k = false) _ N 1000000 0 hN ⟨rfl, rfl⟩ ?_ ?_
  · rintro k x hk ⟨rfl, h2⟩
    rw [hs k hk]
    by_cases hP : P k = true
    · rw [if_pos hP]
      exact Or.inr ⟨r1, rfl, (if_pos (an_iff.mpr ⟨k, hk, hP⟩)).symm⟩
    · rw [if_neg hP]
      exact Or.inl ⟨_, rfl, rfl, by rw [an_suc, h2]; simpa using hP⟩
  · rintro x ⟨rfl, h2⟩
    rw [he]
    exact ⟨r2, rfl, by rw [if_neg (by rw [h2]; decide)]⟩
/-! lamps of the class -/
def gl_w (n k s : Nat) (sq : Prop) [Decidable sq] : Nat := if k = 1 then 2 else if k = 2 then 0 else if k = 3 then (if sq then 7 else 2) else if k = 4 then 1 + s else if k = 5 then (if s + 1 = n then 7 else 0) else 1
theorem bt_z : ∀ k, k < 64 → ∀ s, s < 6 → (((zI ((k : Nat) : Int) >>> (zI ((s : Nat) : Int) &&& 31)) &&& (1 : Int32) = (0 : Int32)) ↔ k.testBit s = false) := by decide +kernel
theorem e_lampsAt {st : XS} {n : Nat} {A B C : Nat → Int} (h : cL st n A B C) {s k : Nat} (hs : s < n) (hk : st.1 2 s = zI (k : Int)) (hk6 : k < 6) (sq : Prop) [Decidable sq] : F_Pla_lampsAt (zI (s : Int)) (zI (if sq then 1 else 0)) st = some (zI ((gl_w n k s sq : Nat) : Int)) := by
  have h6 := h.2.1
  unfold F_Pla_lampsAt
  rw [xo_nm_b, xo_rd_z (by omega) (by decide), Option.bind_some, hk, h.1]
  have hv : ∀ j : Int, zB j → (zI (k : Int) = zI j ↔ (k : Int) = j) := fun j hj => zI_eq (zB_n (by omega)) hj
  have e1 : (zI (k : Int) = (1 : Int32)) ↔ k = 1 := (hv 1 (by decide)).trans (by omega)
  have e2 : (zI (k : Int) = (2 : Int32)) ↔ k = 2 := (hv 2 (by decide)).trans (by omega)
  have e3 : (zI (k : Int) = (3 : Int32)) ↔ k = 3 := (hv 3 (by decide)).trans (by omega)
  have e4 : (zI (k : Int) = (4 : Int32)) ↔ k = 4 := (hv 4 (by decide)).trans (by omega)
  have e5 : (zI (k : Int) = (5 : Int32)) ↔ k = 5 := (hv 5 (by decide)).trans (by omega)
  have e6 : (zI (s : Int) = zI (n : Int) - (1 : Int32)) ↔ s + 1 = n := by
    rw [zI_1, zI_sub, zI_eq (zB_n (by omega)) ⟨by omega, by omega⟩]; omega
  have e7 : (1 : Int32) + zI (s : Int) = zI ((1 + s : Nat) : Int) := by rw [zI_1, zI_add]; congr 1
  unfold gl_w
  simp only [e1, e2, e3, e4, e5, e6, e7]
  by_cases k1 : k = 1
  · simp only [k1]; rfl
  by_cases k2 : k = 2
  · subst k2; rfl
  by_cases k3 : k = 3
  · subst k3
    by_cases hq : sq
    · simp only [if_pos hq]; rfl
    · simp only [if_neg hq]; rfl
  by_cases k4 : k = 4
  · subst k4; rfl
  by_cases k5 : k = 5
  · subst k5
    by_cases hq : s + 1 = n
    · simp only [if_pos hq]; rfl
    · simp only [if_neg hq]; rfl
  simp only [k1, k2, k3, k4, k5, if_false]; rfl
def gl_x (A B C : Nat → Int) (n k s : Nat) (x : Nat × Nat) : Nat := if gz_p A B C x.1 x.2 s = 0 then gl_w n k s (3 ≤ gp_th A B C n x) else 0
theorem e_lampsFrom {st : XS} {n : Nat} {A B C : Nat → Int} (h : cL st n A B C) (hP : gP A B C n st (gp_ls A B C n n)) {s k : Nat} (hs : s < n) (hk : st.1 2 s = zI (k : Int)) (hk6 : k < 6) : F_Pla_lampsFrom (zI (s : Int)) st = some (zI ((ls_sm (gl_x A B C n k s) (gp_ls A B C n n) : Nat) : Int)) := by
  have h6 := h.2.1
  have h15 := gp_ls_15 A B C h6
  generalize hL : gp_ls A B C n n = L at *
  unfold F_Pla_lampsFrom
  rw [← ls_sm_at]
  refine (lp_go (fun i => (zI ((fb_sm (fun j => gl_x A B C n k s (L.getD j (0, 0))) i : Nat) : Int), zI (i : Int))) L.length (zI ((fb_sm (fun j => gl_x A B C n k s (L.getD j (0, 0))) L.length : Nat) : Int)) rfl (by omega) (fun i hi => ?_) ?_).trans rfl
  · unfold F_Pla_lampsFrom_b4
    dsimp only
    obtain ⟨-, -, -, g4, -⟩ := gP_at hP hi
    have hb : bm (fun s => decide (gz_p A B C (L.getD i (0, 0)).1 (L.getD i (0, 0)).2 s = 0)) n < 64 := Nat.lt_of_lt_of_le (bm_lt _ n) (p2_64 h6)
    rw [hP.1, if_neg (zI_ge1 (by omega) hi), xo_rd_z (by omega) (by decide), Option.bind_some, g4, fb_sm_succ]
    have hz := bt_z _ hb s (by omega)
    rw [bm_tb] at hz
    by_cases hc : gz_p A B C (L.getD i (0, 0)).1 (L.getD i (0, 0)).2 s = 0
    · rw [if_neg (by rw [hz, decide_eq_true hs, decide_eq_true hc]; decide), e_isSq h6 hP h15 hi, Option.bind_some, e_lampsAt h hs hk hk6, Option.bind_some, xo_nm_b, xo_nm_b, zI_suc, zI_addn]
      have e : gl_x A B C n k s (L.getD i (0, 0)) = gl_w n k s (3 ≤ gp_th A B C n (L.getD i (0, 0))) := if_pos hc
      rw [e]
    · rw [if_pos (by rw [hz, decide_eq_false hc, Bool.and_false]), xo_nm_b, zI_suc]
      have e : gl_x A B C n k s (L.getD i (0, 0)) = 0 := if_neg hc
      rw [e]; rfl
  · unfold F_Pla_lampsFrom_b4
    dsimp only
    rw [hP.1, if_pos (zI_rfl _)]
