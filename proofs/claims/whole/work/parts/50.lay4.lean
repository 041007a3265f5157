/-! what lay means -/
theorem fS_pr (A B C : Nat → Int) (w : Nat × Nat → Nat) (n : Nat) : fS (fun i j => if gp_f A B C i j = true then w (i, j) else 0) n 0 = pr_sm A B C w n := by
  unfold fS pr_sm
  rw [fb_sm_swap]
  show _ + 0 = _
  rw [Nat.add_zero]
  apply fb_sm_cong
  intro j hj
  obtain ⟨d, hd⟩ : ∃ d, n = j + d := ⟨n - j, by omega⟩
  rw [hd, fb_sm_split]
  have hz : fb_sm (fun k => if j + k < j ∧ gp_f A B C (j + k) j = true then w (j + k, j) else 0) d = 0 := by
    rw [fb_sm_cong (g := fun _ => 0) (fun k hk => if_neg (fun z => by have := z.1; omega)), fb_sm_z]
  rw [hz, Nat.add_zero]
  apply fb_sm_cong
  intro i hi
  simp [hi]
theorem fS_1 (A B C : Nat → Int) (n : Nat) : fS (yf_1 A B C) n 0 = ls_sm (fun _ => 1) (gp_ls A B C n n) := by
  rw [ls_sm_pr, ← fS_pr]; rfl
theorem ls_sm_1 : ∀ L : List (Nat × Nat), ls_sm (fun _ => 1) L = L.length
  | [] => rfl
  | x :: l => by rw [ls_sm, ls_sm_1 l, List.length_cons]; omega
theorem fS_s (A B C : Nat → Int) (n : Nat) : fS (yf_s A B C n) n 0 = ls_sm (fun x => if 3 ≤ gp_th A B C n x then 1 else 0) (gp_ls A B C n n) := by
  rw [ls_sm_pr, ← fS_pr]; rfl
theorem fS_k (A B C : Nat → Int) (n q : Nat) : fS (yf_k A B C n q) n 0 = ls_sm (fun x => if gy_h A B C n x.1 x.2 q = true then 1 else 0) (gp_ls A B C n n) := by
  rw [ls_sm_pr, ← fS_pr]; rfl
theorem ls_sm_cong {w v : Nat × Nat → Nat} : ∀ {L : List (Nat × Nat)}, (∀ x, x ∈ L → w x = v x) → ls_sm w L = ls_sm v L
  | [], _ => rfl
  | x :: l, h => by
    rw [ls_sm, ls_sm, h x List.mem_cons_self, ls_sm_cong (fun y hy => h y (List.mem_cons_of_mem _ hy))]
theorem ls_sm_pos {P : Nat × Nat → Bool} : ∀ {L : List (Nat × Nat)}, 0 < ls_sm (fun x => if P x = true then 1 else 0) L ↔ ∃ x, x ∈ L ∧ P x = true
  | [] => by simp [ls_sm]
  | x :: l => by
    have h := ls_sm_pos (P := P) (L := l)
    rw [ls_sm]
    constructor
    · intro hp
      by_cases hx : P x = true
      · exact ⟨x, List.mem_cons_self, hx⟩
      · rw [if_neg hx] at hp
        obtain ⟨y, hy, hz⟩ := h.mp (by omega)
        exact ⟨y, List.mem_cons_of_mem _ hy, hz⟩
    · rintro ⟨y, hy, hz⟩
      rcases List.mem_cons.mp hy with e | e
      · subst e; rw [if_pos hz]; omega
      · have := h.mpr ⟨y, e, hz⟩; omega
theorem gM_ls (A B C : Nat → Int) (n : Nat) : gM (yf_m A B C n) n = fb_mx (fun k => gp_th A B C n ((gp_ls A B C n n).getD k (0, 0))) (gp_ls A B C n n).length := by
  apply fb_mx_lub
  intro m
  rw [gM_le, fb_mx_le]
  constructor
  · intro h k hk
    obtain ⟨h1, h2, h3⟩ := gp_ls_lt hk
    have h4 := h _ h2 _ h1
    unfold yf_m at h4
    rw [if_pos h3] at h4
    exact h4
  · intro h j hj i hi
    unfold yf_m
    by_cases hf : gp_f A B C i j = true
    · rw [if_pos hf]
      have hmem : (i, j) ∈ gp_ls A B C n n := (gp_ls_mem (Nat.le_refl n)).mpr ⟨by show i < n; omega, hi, hj, hf⟩
      obtain ⟨k, hk, e⟩ := List.getElem_of_mem hmem
      have := h k hk
      rw [List.getD, List.getElem?_eq_getElem hk, e] at this
      exact this
    · rw [if_neg hf]; exact Nat.zero_le m
theorem qy_x : ∀ k, k < 7 → ∀ x, x < 128 → x.testBit k = false → x ||| 2 ^ k = x ^^^ 2 ^ k := by decide +kernel
theorem gy_b_self (A B : Nat → Int) (n i : Nat) (w : Bool) : (gy_b A B n i w).testBit i = false := by
  unfold gy_b; rw [bm_tb, gz_t_self]; simp
theorem gy_E_iff {A B : Nat → Int} {n q : Nat} (h7 : n ≤ 7) : gy_E A B n n q = true ↔ q < 2 ^ n ∧ (n = 0 ∨ gz_end A B n q) := by
  unfold gy_E
  rw [Bool.or_eq_true, Bool.and_eq_true, decide_eq_true_eq, decide_eq_true_eq, an_iff]
  have hE2 : ∀ i, i < n → (gy_E2 A B n i 2 q = true ↔ q < 2 ^ n ∧ ∃ w : Bool, gz_off q i = gy_b A B n i w) := by
    intro i hi
    have hlt : 2 ^ i < 2 ^ n := Nat.pow_lt_pow_right (by decide) hi
    have h1 : ∀ w : Bool, gy_E1 A B n i w 2 q = true ↔ q < 2 ^ n ∧ gz_off q i = gy_b A B n i w := by
      intro w
      have hb : gy_b A B n i w < 2 ^ n := bm_lt _ n
      have hb2 := gy_b_self A B n i w
      unfold gy_E1
      rw [an_suc, an_suc]
      have e0 : gy_b A B n i w ||| 0 * 2 ^ i = gy_b A B n i w := by simp
      have e1 : gy_b A B n i w ||| 1 * 2 ^ i = gy_b A B n i w ||| 2 ^ i := by simp
      rw [e0, e1]
      have hx := qy_x i (by omega) (gy_b A B n i w) (Nat.lt_of_lt_of_le hb (p2_128 h7)) hb2
      rw [hx]
      generalize gy_b A B n i w = v at *
      have e2 : (an (fun o => decide (q = v ||| o * 2 ^ i)) 0) = false := rfl
      rw [e2, Bool.false_or, Bool.or_eq_true, decide_eq_true_eq, decide_eq_true_eq]
      constructor
      · rintro (rfl | rfl)
        · refine ⟨hb, ?_⟩
          unfold gz_off; rw [hb2]; rfl
        · refine ⟨Nat.xor_lt_two_pow hb hlt, ?_⟩
          unfold gz_off
          have : (v ^^^ 2 ^ i).testBit i = true := by rw [Nat.testBit_xor, hb2, Nat.testBit_two_pow]; simp
          rw [this, if_pos rfl, Nat.xor_assoc, Nat.xor_self, Nat.xor_zero]
      · rintro ⟨h1, h2⟩
        unfold gz_off at h2
        by_cases hq : q.testBit i = true
        · rw [if_pos hq] at h2
          right
          rw [← h2, Nat.xor_assoc, Nat.xor_self, Nat.xor_zero]
        · rw [if_neg hq] at h2
          exact Or.inl h2
    unfold gy_E2
    rw [an_iff]
    constructor
    · rintro ⟨w, hw, h⟩
      obtain ⟨g1, g2⟩ := (h1 _).mp h
      exact ⟨g1, _, g2⟩
    · rintro ⟨g1, w, g2⟩
      cases w with
      | true => exact ⟨1, by omega, (h1 _).mpr ⟨g1, g2⟩⟩
      | false => exact ⟨0, by omega, (h1 _).mpr ⟨g1, g2⟩⟩
  have hoff : ∀ i, i < n → q < 2 ^ n → gz_off q i < 2 ^ n := fun i hi hq => by
    unfold gz_off
    split
    · exact Nat.xor_lt_two_pow hq (Nat.pow_lt_pow_right (by decide) hi)
    · exact hq
  constructor
  · rintro (⟨rfl, rfl⟩ | ⟨i, hi, h⟩)
    · exact ⟨by decide, Or.inl rfl⟩
    · obtain ⟨h1, w, h2⟩ := (hE2 i hi).mp h
      refine ⟨h1, Or.inr ⟨i, hi, if w then -1 else 1, by cases w <;> simp, fun t ht hti => ?_⟩⟩
      have h3 := (bm_iff (hoff i hi h1)).mp h2 t ht
      rw [gz_off_bit, decide_eq_true hti, Bool.true_and, decide_eq_true_eq] at h3
      exact h3
  · rintro ⟨h1, rfl | ⟨i, hi, g, hg, h⟩⟩
    · exact Or.inl ⟨rfl, by simpa using h1⟩
    · refine Or.inr ⟨i, hi, (hE2 i hi).mpr ⟨h1, decide (g = -1), (bm_iff (hoff i hi h1)).mpr (fun t ht => ?_)⟩⟩
      have e : (if decide (g = -1) = true then (-1 : Int) else 1) = g := by
        rcases hg with rfl | rfl <;> rfl
      rw [e, decide_eq_true_eq, gz_off_bit]
      by_cases hti : t = i
      · subst hti
        rw [gz_t_self]; simp
      · rw [← h t ht hti]; simp [hti]
/-- corner[] of the reference, and what it says -/
def gy_c (A B C : Nat → Int) (n q : Nat) : Nat := gy_v (gy_E A B n n q) (fS (yf_k A B C n q) n 0)
theorem gy_c_pos {A B C : Nat → Int} {n q : Nat} (h7 : n ≤ 7) (hok : gz_ok A B n) : 0 < gy_c A B C n q ↔ q < 2 ^ n ∧ gz_reg A B C n (fun _ => True) q := by
  unfold gy_c
  rw [gy_v_pos, gy_E_iff h7, fS_k, ls_sm_pos]
  constructor
  · rintro (⟨h1, rfl | h2⟩ | ⟨x, hx, h⟩)
    · exact ⟨h1, 0, 0, 1, by decide, fun s hs => absurd hs (Nat.not_lt_zero s)⟩
    · exact ⟨h1, gz_ref_reg hok (Or.inl h2)⟩
    · obtain ⟨h1, h2, h3⟩ := gy_h_iff.mp h
      obtain ⟨g1, g2, g3, g4⟩ := (gp_ls_mem (Nat.le_refl n)).mp hx
      exact ⟨h1, gz_ref_reg hok (Or.inr ⟨x.1, x.2, g2, g3, h2, h3⟩)⟩
  · rintro ⟨h1, h2⟩
    by_cases hn : n = 0
    · exact Or.inl ⟨h1, Or.inl hn⟩
    · rcases gz_reg_ref hok (by omega) h2 with h3 | ⟨i, j, hij, hj, hf, ha, hb⟩
      · exact Or.inl ⟨h1, Or.inr h3⟩
      · exact Or.inr ⟨(i, j), (gp_ls_mem (Nat.le_refl n)).mpr ⟨by show i < n; omega, hij, hj, gp_f_iff.mpr hf⟩, gy_h_iff.mpr ⟨h1, ha, hb⟩⟩
theorem gy_c_Q {A B C : Nat → Int} {n q : Nat} (h6 : n ≤ 6) (hok : gz_ok A B n) : 0 < gy_c A B C n q ↔ gq_Q A B C n n q = true := by
  rw [gy_c_pos (by omega) hok, gq_Q_iff h6 hok]
