/-! streets taken up -/
theorem fb_ct_out (p : Nat → Bool) (b : Bool) {i n : Nat} (h : n ≤ i) : fb_ct (fun k => if k = i then b else p k) n = fb_ct p n :=
  fb_ct_cong (fun k hk => if_neg (by omega))
theorem fb_ct_upd (p : Nat → Bool) (b : Bool) {i : Nat} : ∀ {n : Nat}, i < n → fb_ct (fun k => if k = i then b else p k) n + (if p i then 1 else 0) = fb_ct p n + (if b then 1 else 0)
  | 0, h => absurd h (Nat.not_lt_zero i)
  | n + 1, h => by
    rw [fb_ct_succ, fb_ct_succ]
    by_cases e : i = n
    · subst e
      rw [fb_ct_out p b (Nat.le_refl i), if_pos rfl]; omega
    · have := fb_ct_upd p b (i := i) (n := n) (by omega)
      have e2 : ¬ n = i := fun z => e z.symm
      rw [if_neg e2]; omega
theorem ct_inj {P : Nat → Bool} {f : Nat → Nat} {M : Nat} : ∀ {N : Nat} {Q : Nat → Bool}, (∀ k, k < N → P k = true → f k < M ∧ Q (f k) = true) → (∀ i j, i < N → j < N → P i = true → P j = true → f i = f j → i = j) → fb_ct P N ≤ fb_ct Q M
  | 0, _, _, _ => Nat.zero_le _
  | N + 1, Q, h, hi => by
    rw [fb_ct_succ]
    by_cases hP : P N = true
    · obtain ⟨h1, h2⟩ := h N (by omega) hP
      have hu := fb_ct_upd Q false h1
      have ih := ct_inj (P := P) (f := f) (M := M) (N := N) (Q := fun k => if k = f N then false else Q k) (fun k hk hpk => by
        obtain ⟨g1, g2⟩ := h k (by omega) hpk
        refine ⟨g1, ?_⟩
        have : f k ≠ f N := fun z => by have := hi k N (by omega) (by omega) hpk hP z; omega
        rw [if_neg this]; exact g2) (fun i j hi9 hj9 => hi i j (by omega) (by omega))
      rw [if_pos h2, if_neg (show ¬ (false = true) by decide)] at hu
      rw [if_pos hP]
      omega
    · rw [if_neg hP]
      have ih := ct_inj (P := P) (f := f) (M := M) (N := N) (Q := Q) (fun k hk => h k (by omega)) (fun i j hi9 hj9 => hi i j (by omega) (by omega))
      omega
/-- the lines without s: the last one stands in its place -/
def swf (n s t : Nat) : Nat := if t = s then n - 1 else t
def swg (n s u : Nat) : Nat := if u = n - 1 then s else u
def sw (A : Nat → Int) (n s : Nat) (t : Nat) : Int := A (swf n s t)
theorem swf_lt {n s t : Nat} (ht : t < n - 1) : swf n s t < n := by unfold swf; split <;> omega
theorem swf_ne {n s t : Nat} (ht : t < n - 1) : swf n s t ≠ s := by unfold swf; split <;> omega
theorem swf_inj {n s i j : Nat} (hi : i < n - 1) (hj : j < n - 1) (h : i ≠ j) : swf n s i ≠ swf n s j := by
  unfold swf; split <;> split <;> omega
theorem swg_lt {n s u : Nat} (hs : s < n) (hu : u < n) (h : u ≠ s) : swg n s u < n - 1 := by unfold swg; split <;> omega
theorem swf_g {n s u : Nat} (hs : s < n) (hu : u < n) (h : u ≠ s) : swf n s (swg n s u) = u := by
  unfold swf swg
  by_cases e : u = n - 1
  · rw [if_pos e, if_pos rfl]; exact e.symm
  · rw [if_neg e, if_neg h]
theorem swg_f {n s t : Nat} (hs : s < n) (ht : t < n - 1) : swg n s (swf n s t) = t := by
  unfold swf swg
  by_cases e : t = s
  · rw [if_pos e, if_pos rfl]; exact e.symm
  · rw [if_neg e, if_neg (by omega)]
theorem sw_h (A B C : Nat → Int) (n s t : Nat) (x y w : Int) : gz_h (sw A n s) (sw B n s) (sw C n s) t x y w = gz_h A B C (swf n s t) x y w := rfl
theorem sw_ok {A B : Nat → Int} {n s : Nat} (hok : gz_ok A B n) : gz_ok (sw A n s) (sw B n s) (n - 1) := by
  refine ⟨fun t ht => hok.1 _ (swf_lt ht), fun i j hi hj hij => ?_⟩
  exact hok.2 _ _ (swf_lt hi) (swf_lt hj) (swf_inj hi hj hij)
theorem sw_gB {A B C : Nat → Int} {n s : Nat} (h : gB A B C n) : gB (sw A n s) (sw B n s) (sw C n s) (n - 1) := fun t ht => h _ (swf_lt ht)
theorem gqW_iff {A B C : Nat → Int} {n s m : Nat} (h6 : n ≤ 6) (hok : gz_ok A B n) (hs : s < n) : gq_W (gq_Q A B C n n) s 64 m = true ↔ m < 2 ^ n ∧ m.testBit s = false ∧ gz_reg A B C n (fun t => t ≠ s) m := by
  unfold gq_W
  rw [an_iff]
  have h64 := p2_64 h6
  constructor
  · rintro ⟨q, hq, h⟩
    rw [Bool.and_eq_true, decide_eq_true_eq] at h
    obtain ⟨h1, rfl⟩ := h
    obtain ⟨h2, x, y, w, hw, h3⟩ := (gq_Q_iff h6 hok).mp h1
    refine ⟨?_, ?_, x, y, w, hw, fun t ht hts => ?_⟩
    · unfold gz_off
      split
      · exact Nat.xor_lt_two_pow h2 (Nat.pow_lt_pow_right (by decide) hs)
      · exact h2
    · rw [gz_off_bit]; simp
    · have hts : t ≠ s := hts
      rw [gz_off_bit, decide_eq_true hts, Bool.true_and]
      exact h3 t ht trivial
  · rintro ⟨h1, h2, h3⟩
    obtain ⟨q, g1, g2⟩ := gz_less hok hs h3
    have hq : q < 2 ^ n := by
      apply Nat.lt_pow_two_of_testBit
      intro i hi
      rw [g1 i (by omega)]
      exact Nat.testBit_lt_two_pow (Nat.lt_of_lt_of_le h1 (Nat.pow_le_pow_right (by decide) hi))
    refine ⟨q, by omega, ?_⟩
    rw [Bool.and_eq_true, decide_eq_true_eq]
    refine ⟨(gq_Q_iff h6 hok).mpr ⟨hq, g2⟩, ?_⟩
    apply Nat.eq_of_testBit_eq
    intro i
    rw [gz_off_bit]
    by_cases e : i = s
    · subst e; rw [h2]; simp
    · rw [g1 i e, decide_eq_true e, Bool.true_and]
theorem lt_bits {a b n : Nat} (ha : a < 2 ^ n) (hb : b < 2 ^ n) (h : ∀ t, t < n → a.testBit t = b.testBit t) : a = b := by
  apply Nat.eq_of_testBit_eq
  intro i
  by_cases hi : i < n
  · exact h i hi
  · rw [Nat.testBit_lt_two_pow (Nat.lt_of_lt_of_le ha (Nat.pow_le_pow_right (by decide) (by omega))), Nat.testBit_lt_two_pow (Nat.lt_of_lt_of_le hb (Nat.pow_le_pow_right (by decide) (by omega)))]
theorem sw_ct {A B C : Nat → Int} {n s : Nat} (h6 : n ≤ 6) (hok : gz_ok A B n) (hs : s < n) : fb_ct (gq_Q (sw A n s) (sw B n s) (sw C n s) (n - 1) (n - 1)) 64 = fb_ct (gq_W (gq_Q A B C n n) s 64) 64 := by
  have hok2 := sw_ok (s := s) hok
  have h64 := p2_64 h6
  have h64' := p2_64 (show n - 1 ≤ 6 by omega)
  have hQ : ∀ m, gq_Q (sw A n s) (sw B n s) (sw C n s) (n - 1) (n - 1) m = true ↔ m < 2 ^ (n - 1) ∧ gz_reg (sw A n s) (sw B n s) (sw C n s) (n - 1) (fun _ => True) m := fun m => gq_Q_iff (by omega) hok2
  have hW : ∀ m, gq_W (gq_Q A B C n n) s 64 m = true ↔ m < 2 ^ n ∧ m.testBit s = false ∧ gz_reg A B C n (fun t => t ≠ s) m := fun m => gqW_iff h6 hok hs
  apply Nat.le_antisymm
  · refine ct_inj (f := fun m => bm (fun u => decide (u ≠ s) && m.testBit (swg n s u)) n) (fun m hm hm2 => ?_) (fun m1 m2 _ _ hm1 hm2 e => ?_)
    · obtain ⟨g1, x, y, w, hw, g2⟩ := (hQ m).mp hm2
      have hlt : bm (fun u => decide (u ≠ s) && m.testBit (swg n s u)) n < 2 ^ n := bm_lt _ n
      refine ⟨by omega, (hW _).mpr ⟨hlt, ?_, x, y, w, hw, fun u hu hus => ?_⟩⟩
      · rw [bm_tb]; simp
      · have hus : u ≠ s := hus
        have h3 := g2 (swg n s u) (swg_lt hs hu hus) trivial
        rw [sw_h, swf_g hs hu hus] at h3
        rw [bm_tb, decide_eq_true hu, decide_eq_true hus, Bool.true_and, Bool.true_and]
        exact h3
    · obtain ⟨g1, -⟩ := (hQ m1).mp hm1
      obtain ⟨g2, -⟩ := (hQ m2).mp hm2
      refine lt_bits g1 g2 (fun t ht => ?_)
      have h3 := congrArg (fun z => z.testBit (swf n s t)) e
      rw [bm_tb, bm_tb, swg_f hs ht, decide_eq_true (swf_lt ht), decide_eq_true (swf_ne ht), Bool.true_and, Bool.true_and, Bool.true_and, Bool.true_and] at h3
      exact h3
  · refine ct_inj (f := fun m => bm (fun t => m.testBit (swf n s t)) (n - 1)) (fun m hm hm2 => ?_) (fun m1 m2 _ _ hm1 hm2 e => ?_)
    · obtain ⟨g1, g3, x, y, w, hw, g2⟩ := (hW m).mp hm2
      have hlt : bm (fun t => m.testBit (swf n s t)) (n - 1) < 2 ^ (n - 1) := bm_lt _ (n - 1)
      refine ⟨by omega, (hQ _).mpr ⟨hlt, x, y, w, hw, fun t ht _ => ?_⟩⟩
      have h3 := g2 (swf n s t) (swf_lt ht) (swf_ne ht)
      rw [sw_h, bm_tb, decide_eq_true ht, Bool.true_and]
      exact h3
    · obtain ⟨g1, k1, -⟩ := (hW m1).mp hm1
      obtain ⟨g2, k2, -⟩ := (hW m2).mp hm2
      refine lt_bits g1 g2 (fun u hu => ?_)
      by_cases hus : u = s
      · rw [hus, k1, k2]
      · have h3 := congrArg (fun z => z.testBit (swg n s u)) e
        rw [bm_tb, bm_tb, swf_g hs hu hus, decide_eq_true (swg_lt hs hu hus), Bool.true_and, Bool.true_and] at h3
        exact h3
