/-! COUNTING LOOPS -/
theorem lp_cnt {τ : Type} {f : Int32 × Int32 → Option ((Int32 × Int32) ⊕ Int32)} {g : Int32 → Option τ} (P : Nat → Bool) (N : Nat) (hN : N < 1000000) (hs : ∀ k c : Nat, k < N → f (zI (c : Int), zI (k : Int)) = some (.inl (zI ((c + (if P k then 1 else 0) : Nat) : Int), zI ((k + 1 : Nat) : Int)))) (he : ∀ c : Nat, f (zI (c : Int), zI (N : Int)) = some (.inr (zI (c : Int)))) : (xo_lp f 1000000 ((0 : Int32), (0 : Int32))).bind g = g (zI ((fb_ct P N : Nat) : Int)) :=
  lp_go (fun k => (zI ((fb_ct P k : Nat) : Int), zI (k : Int))) N _ rfl hN (fun k hk => hs k (fb_ct P k) hk) (he _)
/-- the two sides of a sum over pairs -/
theorem fb_sm_add (f g : Nat → Nat) : ∀ n, fb_sm (fun k => f k + g k) n = fb_sm f n + fb_sm g n
  | 0 => rfl
  | n + 1 => by rw [fb_sm_succ, fb_sm_succ, fb_sm_succ, fb_sm_add f g n]; omega
theorem fb_sm_z : ∀ n, fb_sm (fun _ => 0) n = 0
  | 0 => rfl
  | n + 1 => by rw [fb_sm_succ, fb_sm_z n]
theorem fb_sm_swap (f : Nat → Nat → Nat) (m : Nat) : ∀ n, fb_sm (fun i => fb_sm (f i) m) n = fb_sm (fun j => fb_sm (fun i => f i j) n) m
  | 0 => (fb_sm_z m).symm
  | n + 1 => by
    rw [fb_sm_succ, fb_sm_swap f m n, ← fb_sm_add]
    rfl
theorem fb_ct_sm (P : Nat → Bool) : ∀ n, fb_ct P n = fb_sm (fun k => if P k then 1 else 0) n
  | 0 => rfl
  | n + 1 => by rw [fb_ct_succ, fb_sm_succ, fb_ct_sm P n]
/-- a count over the places of a list is a count over the list -/
def ls_sm (w : Nat × Nat → Nat) : List (Nat × Nat) → Nat
  | [] => 0
  | x :: l => w x + ls_sm w l
theorem ls_sm_app (w : Nat × Nat → Nat) : ∀ l m, ls_sm w (l ++ m) = ls_sm w l + ls_sm w m
  | [], m => by simp [ls_sm]
  | x :: l, m => by
    show w x + ls_sm w (l ++ m) = w x + ls_sm w l + ls_sm w m
    rw [ls_sm_app w l m]; omega
theorem ls_sm_row (A B C : Nat → Int) (w : Nat × Nat → Nat) (i : Nat) : ∀ d, ls_sm w (gp_rw A B C i d) = fb_sm (fun e => if gp_f A B C i (i + 1 + e) then w (i, i + 1 + e) else 0) d
  | 0 => rfl
  | d + 1 => by
    rw [gp_rw, ls_sm_app, fb_sm_succ, ls_sm_row A B C w i d]
    split <;> simp [ls_sm]
theorem fb_sm_split (f : Nat → Nat) (m : Nat) : ∀ n, fb_sm f (m + n) = fb_sm f m + fb_sm (fun k => f (m + k)) n
  | 0 => rfl
  | n + 1 => by
    show fb_sm f (m + n + 1) = _
    rw [fb_sm_succ, fb_sm_succ, fb_sm_split f m n, Nat.add_assoc]
/-- the sum over all points: over all pairs of lines -/
def pr_sm (A B C : Nat → Int) (w : Nat × Nat → Nat) (n : Nat) : Nat := fb_sm (fun i => fb_sm (fun j => if i < j ∧ gp_f A B C i j = true then w (i, j) else 0) n) n
theorem ls_sm_pr (A B C : Nat → Int) (w : Nat × Nat → Nat) (n : Nat) : ls_sm w (gp_ls A B C n n) = pr_sm A B C w n := by
  have key : ∀ i, i ≤ n → ls_sm w (gp_ls A B C n i) = fb_sm (fun i => fb_sm (fun j => if i < j ∧ gp_f A B C i j = true then w (i, j) else 0) n) i := by
    intro i
    induction i with
    | zero => intro _; rfl
    | succ i ih =>
      intro hi
      rw [gp_ls, ls_sm_app, fb_sm_succ, ih (by omega), ls_sm_row]
      congr 1
      have e : n = (i + 1) + (n - (i + 1)) := by omega
      generalize n - (i + 1) = d at e ⊢
      rw [e, fb_sm_split]
      have hz : fb_sm (fun j => if i < j ∧ gp_f A B C i j = true then w (i, j) else 0) (i + 1) = 0 := by
        rw [fb_sm_cong (g := fun _ => 0) (fun k hk => if_neg (fun z => by have := z.1; omega)), fb_sm_z]
      rw [hz, Nat.zero_add]
      apply fb_sm_cong
      intro k _
      have h1 : i < i + 1 + k := by omega
      simp [h1]
  exact key n (Nat.le_refl n)
