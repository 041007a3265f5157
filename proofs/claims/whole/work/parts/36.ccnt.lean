/-! counts over the kept points -/
theorem ls_ct (P : Nat × Nat → Bool) : ∀ L : List (Nat × Nat), fb_ct (fun k => P (L.getD k (0, 0))) L.length = ls_sm (fun x => if P x then 1 else 0) L
  | [] => rfl
  | x :: l => by
    have h := ls_ct P l
    have e : (x :: l).length = 1 + l.length := by simp; omega
    rw [e, fb_ct_split, ls_sm, ← h]
    congr 1
    · simp [fb_ct]
    · apply fb_ct_cong
      intro k _
      rw [Nat.add_comm 1 k]
      simp
theorem gP_at {A B C : Nat → Int} {n : Nat} {t : XS} {L : List (Nat × Nat)} (h : gP A B C n t L) {k : Nat} (hk : k < L.length) : t.1 23 k = zI (gz_X A B C (A (L.getD k (0, 0)).1) (B (L.getD k (0, 0)).1) (C (L.getD k (0, 0)).1) (L.getD k (0, 0)).2) ∧ t.1 24 k = zI (gz_Y A B C (A (L.getD k (0, 0)).1) (B (L.getD k (0, 0)).1) (C (L.getD k (0, 0)).1) (L.getD k (0, 0)).2) ∧ t.1 25 k = zI (gz_W A B (A (L.getD k (0, 0)).1) (B (L.getD k (0, 0)).1) (L.getD k (0, 0)).2) ∧ t.1 26 k = zI ((bm (fun s => decide (gz_p A B C (L.getD k (0, 0)).1 (L.getD k (0, 0)).2 s = 0)) n : Nat) : Int) ∧ t.1 27 k = zI ((bm (fun s => decide (0 < gz_p A B C (L.getD k (0, 0)).1 (L.getD k (0, 0)).2 s)) n : Nat) : Int) := by
  apply h.2 k
  rw [List.getElem?_eq_getElem hk]
  simp [List.getD, List.getElem?_eq_getElem hk]
