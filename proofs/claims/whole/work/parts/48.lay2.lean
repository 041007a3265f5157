/-! lay: the points -/
def fS (f : Nat → Nat → Nat) (j i : Nat) : Nat := fb_sm (fun j' => fb_sm (fun i' => f i' j') j') j + fb_sm (fun i' => f i' j) i
theorem fS_i (f : Nat → Nat → Nat) (j i : Nat) : fS f j (i + 1) = fS f j i + f i j := by unfold fS; rw [fb_sm_succ]; omega
theorem fS_j (f : Nat → Nat → Nat) (j : Nat) : fS f (j + 1) 0 = fS f j j := by unfold fS; rw [fb_sm_succ]; rfl
theorem fb_sm_bd {f : Nat → Nat} {c : Nat} : ∀ {n : Nat}, (∀ k, k < n → f k ≤ c) → fb_sm f n ≤ c * n
  | 0, _ => Nat.le_refl _
  | n + 1, h => by
    have h1 := fb_sm_bd (f := f) (c := c) (n := n) (fun k hk => h k (by omega))
    have h2 := h n (by omega)
    rw [fb_sm_succ, Nat.mul_succ]; omega
theorem fS_bd {f : Nat → Nat → Nat} (h : ∀ i j, f i j ≤ 1) {j i : Nat} (hj : j ≤ 7) (hi : i ≤ 7) : fS f j i ≤ 56 := by
  have h1 : fb_sm (fun j' => fb_sm (fun i' => f i' j') j') j ≤ 7 * j := fb_sm_bd (fun k hk => by
    have : fb_sm (fun i' => f i' k) k ≤ 1 * k := fb_sm_bd (fun i _ => h i k)
    omega)
  have h2 : fb_sm (fun i' => f i' j) i ≤ 1 * i := fb_sm_bd (fun i _ => h i j)
  unfold fS; omega
def rM (g : Nat → Nat) (b : Nat) : Nat → Nat
  | 0 => b
  | i + 1 => if rM g b i < g i then g i else rM g b i
theorem rM_suc (g : Nat → Nat) (b i : Nat) : rM g b (i + 1) = if rM g b i < g i then g i else rM g b i := rfl
def gM (f : Nat → Nat → Nat) : Nat → Nat
  | 0 => 0
  | j + 1 => rM (fun i => f i j) (gM f j) j
theorem gM_suc (f : Nat → Nat → Nat) (j : Nat) : gM f (j + 1) = rM (fun i => f i j) (gM f j) j := rfl
theorem rM_le {g : Nat → Nat} {b m : Nat} : ∀ {i : Nat}, rM g b i ≤ m ↔ b ≤ m ∧ ∀ k, k < i → g k ≤ m
  | 0 => ⟨fun h => ⟨h, fun k hk => absurd hk (Nat.not_lt_zero k)⟩, fun h => h.1⟩
  | i + 1 => by
    have h := rM_le (g := g) (b := b) (m := m) (i := i)
    rw [rM_suc]
    constructor
    · intro hm
      have h1 := h.mp (by split at hm <;> omega)
      refine ⟨h1.1, fun k hk => ?_⟩
      by_cases e : k = i
      · subst e; split at hm <;> omega
      · exact h1.2 k (by omega)
    · rintro ⟨h1, h2⟩
      have h3 := h.mpr ⟨h1, fun k hk => h2 k (by omega)⟩
      have h4 := h2 i (by omega)
      split <;> omega
theorem gM_le {f : Nat → Nat → Nat} {m : Nat} : ∀ {n : Nat}, gM f n ≤ m ↔ ∀ j, j < n → ∀ i, i < j → f i j ≤ m
  | 0 => ⟨fun _ k hk => absurd hk (Nat.not_lt_zero k), fun _ => Nat.zero_le m⟩
  | n + 1 => by
    rw [gM_suc, rM_le, gM_le]
    constructor
    · rintro ⟨h1, h2⟩ j hj i hi
      by_cases e : j = n
      · subst e; exact h2 i hi
      · exact h1 j (by omega) i hi
    · intro h
      exact ⟨fun j hj => h j (by omega), fun i hi => h n (by omega) i hi⟩
def yf_1 (A B C : Nat → Int) (i j : Nat) : Nat := if gp_f A B C i j = true then 1 else 0
def yf_s (A B C : Nat → Int) (n i j : Nat) : Nat := if gp_f A B C i j = true then (if 3 ≤ gp_th A B C n (i, j) then 1 else 0) else 0
def yf_m (A B C : Nat → Int) (n i j : Nat) : Nat := if gp_f A B C i j = true then gp_th A B C n (i, j) else 0
def yf_k (A B C : Nat → Int) (n q i j : Nat) : Nat := if gp_f A B C i j = true then (if gy_h A B C n i j q = true then 1 else 0) else 0
theorem yf_k_le (A B C : Nat → Int) (n q i j : Nat) : yf_k A B C n q i j ≤ 1 := by
  unfold yf_k; split
  · split <;> omega
  · omega
theorem yf_m_le (A B C : Nat → Int) (n i j : Nat) : yf_m A B C n i j ≤ n := by
  have := gp_th_le A B C n (i, j)
  unfold yf_m; split <;> omega
theorem zI_128 : (128 : Int32) = zI ((128 : Nat) : Int) := rfl
theorem gy_t_lt {A B C : Nat → Int} {n : Nat} (h7 : n ≤ 7) (i j : Nat) : gy_t A B C n i j < 128 := Nat.lt_of_lt_of_le (bm_lt _ n) (p2_128 h7)
theorem gy_f_lt {A B C : Nat → Int} {n : Nat} (h7 : n ≤ 7) (i j : Nat) : gy_f A B C n i j < 128 := Nat.lt_of_lt_of_le (bm_lt _ n) (p2_128 h7)
theorem e_lay_tf {st : XS} {n : Nat} {A B C : Nat → Int} (h : mL st n A B C) {i j : Nat} (hi : i < n) (hj : j < n) : xo_lp (fun q : (Int32 × Int32 × Int32) => F_Mod_lay_b226 (zI (n : Int)) (zI (j : Int)) (zI (i : Int)) st q.1 q.2.1 q.2.2) 1000000 ((0 : Int32), (0 : Int32), (0 : Int32)) = some (zI ((gy_t A B C n i j : Nat) : Int), zI ((gy_f A B C n i j : Nat) : Int)) := by
  have h7 := h.1
  unfold gy_t gy_f
  refine lp_run (fun k => (zI ((bm (fun s => decide (gz_p A B C i j s = 0)) k : Nat) : Int), zI ((bm (fun s => decide (0 < gz_p A B C i j s)) k : Nat) : Int), zI (k : Int))) n 1000000 (by omega) (fun k hk => ?_) ?_
  · unfold F_Mod_lay_b226 F_Mod_lay_m256
    dsimp only
    rw [if_neg (zI_ge1 (by omega) hk), e_msoc h hk hi hj, Option.bind_some]
    by_cases hz : gz_p A B C i j k = 0
    · rw [if_pos (sg3_z.mpr hz), xo_nm_b, if_pos (sg3_le.mpr (by omega)), xo_nm_b, zI_suc, bm_suc_t (by omega) (decide_eq_true hz), bm_suc_f (P := fun s => decide (0 < gz_p A B C i j s)) (decide_eq_false (by omega))]
    · rw [if_neg (fun z => hz (sg3_z.mp z)), bm_suc_f (P := fun s => decide (gz_p A B C i j s = 0)) (decide_eq_false hz)]
      by_cases hp : 0 < gz_p A B C i j k
      · rw [if_neg (fun z => sg3_le.mp z hp), xo_nm_b, xo_nm_b, zI_suc, bm_suc_t (by omega) (decide_eq_true hp)]
      · rw [if_pos (sg3_le.mpr hp), xo_nm_b, zI_suc, bm_suc_f (decide_eq_false hp)]
  · unfold F_Mod_lay_b226
    dsimp only
    rw [if_pos (zI_rfl _)]
/-- the sides about one point -/
theorem yr_sub : ∀ k, k < 128 → ∀ t, t < 128 → ((zI ((k : Nat) : Int) &&& (zI ((t : Nat) : Int) ^^^ (-1 : Int32)) = (0 : Int32)) ↔ k &&& t = k) := by decide +kernel
theorem e_lay_rest {st t : XS} {n : Nat} {A B C : Nat → Int} {E : Nat → Bool} {K : Nat → Nat} {p s m : Nat} (hm : mL st n A B C) (h : yS st t E K p s m) (hK : ∀ q, K q ≤ 10000) {i j : Nat} (x2 x3 : Int32) : ∃ r, xo_lp (fun q : (Int32 × XS) => F_Mod_lay_b315 (zI (n : Int)) x2 x3 (zI ((gy_t A B C n i j : Nat) : Int)) (zI ((gy_f A B C n i j : Nat) : Int)) q.1 q.2) 1000000 ((0 : Int32), t) = some r ∧ yS st r E (fun q => K q + (if gy_h A B C n i j q = true then 1 else 0)) p s m := by
  have h7 := hm.1
  have ht := gy_t_lt (A := A) (B := B) (C := C) h7 i j
  have hf := gy_f_lt (A := A) (B := B) (C := C) h7 i j
  have hft : gy_f A B C n i j &&& gy_t A B C n i j = 0 := by
    apply Nat.eq_of_testBit_eq
    intro u
    rw [Nat.testBit_and, gy_f_b, gy_t_b, Nat.zero_testBit]
    by_cases hz : gz_p A B C i j u = 0
    · simp [hz]
    · simp [hz]
  have hH : ∀ q, gy_h A B C n i j q = (decide (q = gy_f A B C n i j ||| (q &&& gy_t A B C n i j)) && an (ga_ok A B n (gy_t A B C n i j) (q &&& gy_t A B C n i j)) n) := fun q => rfl
  generalize gy_t A B C n i j = th at *
  generalize gy_f A B C n i j = fx at *
  refine lp_inv (fun (k : Nat) (x : Int32 × XS) => x.1 = zI (k : Int) ∧ yS st x.2 E (fun q => K q + (if gy_h A B C n i j q = true ∧ q &&& th < k then 1 else 0)) p s m) _ 128 1000000 _ (by omega) ⟨rfl, yS_cong h (fun _ _ => rfl) (fun q _ => by simp)⟩ ?_ ?_
  · rintro k ⟨x, t2⟩ hk ⟨e1, e2⟩
    dsimp only at e1 e2 ⊢
    subst e1
    unfold F_Mod_lay_b315
    rw [zI_128, if_neg (zI_ge1 (by omega) hk)]
    have hsame : (∀ q, gy_h A B C n i j q = true → q &&& th ≠ k) → yS st t2 E (fun q => K q + (if gy_h A B C n i j q = true ∧ q &&& th < k + 1 then 1 else 0)) p s m := fun hno => by
      refine yS_cong e2 (fun _ _ => rfl) (fun q _ => ?_)
      congr 1
      by_cases hq : gy_h A B C n i j q = true
      · have := hno q hq
        by_cases hl : q &&& th < k
        · rw [if_pos ⟨hq, hl⟩, if_pos ⟨hq, by omega⟩]
        · rw [if_neg (fun z => hl z.2), if_neg (fun z => hl (by omega))]
      · rw [if_neg (fun z => hq z.1), if_neg (fun z => hq z.1)]
    by_cases hs : k &&& th = k
    · rw [if_pos ((yr_sub k hk th ht).mpr hs), e_about (mL_u hm e2.1) ht hk, Option.bind_some]
      by_cases ha : an (ga_ok A B n th k) n = true
      · have hv : fx ||| k < 128 := Nat.or_lt_two_pow (n := 7) hf hk
        have hvt : (fx ||| k) &&& th = k := by
          rw [Nat.and_or_distrib_right, hft, Nat.zero_or, hs]
        have hhv : gy_h A B C n i j (fx ||| k) = true := by
          rw [hH, hvt, ha, decide_eq_true rfl]; rfl
        have hvn : (fun q => K q + (if gy_h A B C n i j q = true ∧ q &&& th < k then 1 else 0)) (fx ||| k) = K (fx ||| k) := by
          dsimp only
          rw [hvt, if_neg (by omega)]; rfl
        obtain ⟨g1, g2⟩ := e2.2.1 (fx ||| k) hv
        rw [hvn] at g1
        have hgl := gy_v_le (E (fx ||| k)) (K (fx ||| k))
        have hkl := hK (fx ||| k)
        rw [if_pos ha, if_neg (by decide), zI_or, xo_nm_b, xo_rd_z hv (by decide), Option.bind_some, xo_ck_z hv (by decide), Option.bind_some, xo_nm_b, xo_nm_b, zI_suc, zI_cl (by omega), g1]
        have hw : (if (1 : Int32) < zI ((gy_v (E (fx ||| k)) (K (fx ||| k)) : Nat) : Int) then zI ((gy_v (E (fx ||| k)) (K (fx ||| k)) : Nat) : Int) else (1 : Int32)) + (1 : Int32) = zI ((gy_v (E (fx ||| k)) (K (fx ||| k) + 1) : Nat) : Int) := by
          rw [← gy_v_suc]
          by_cases hc : 1 < gy_v (E (fx ||| k)) (K (fx ||| k))
          · rw [if_pos (by rw [zI_1, zI_lt (by decide) (zB_n (by omega))]; omega), if_pos hc, zI_suc]
          · rw [if_neg (by rw [zI_1, zI_lt (by decide) (zB_n (by omega))]; omega), if_neg hc]; rfl
        rw [hw]
        refine ⟨_, rfl, rfl, lU_trans e2.1 ⟨rfl, fun k h0 h18 h19 => by simp [xs_A, h18], fun j hj => by simp [xs_A]⟩, fun q hq => ?_, by simpa [xs_A] using e2.2.2.1, by simpa [xs_A] using e2.2.2.2.1, by simpa [xs_A] using e2.2.2.2.2⟩
        obtain ⟨g3, g4⟩ := e2.2.1 q hq
        by_cases e : q = fx ||| k
        · subst e
          refine ⟨?_, by simpa [xs_A] using g4⟩
          dsimp only
          rw [if_pos ⟨hhv, by rw [hvt]; omega⟩]
          simp [xs_A, upd]
        · refine ⟨?_, by simpa [xs_A] using g4⟩
          have e5 : (xs_A t2 18 (upd (t2.1 18) (fx ||| k) (zI ((gy_v (E (fx ||| k)) (K (fx ||| k) + 1) : Nat) : Int)))).1 18 q = t2.1 18 q := by simp [xs_A, upd, e]
          dsimp only
          rw [e5, g3]
          congr 3
          dsimp only
          by_cases hq : gy_h A B C n i j q = true
          · have hne : q &&& th ≠ k := by
              intro z
              rw [hH, Bool.and_eq_true, decide_eq_true_eq, z] at hq
              exact e hq.1
            by_cases hl : q &&& th < k
            · rw [if_pos ⟨hq, hl⟩, if_pos ⟨hq, by omega⟩]
            · rw [if_neg (fun z => hl z.2), if_neg (fun z => hl (by omega))]
          · rw [if_neg (fun z => hq z.1), if_neg (fun z => hq z.1)]
      · rw [if_neg ha, if_pos (show zI 0 = 0 from rfl), xo_nm_b, zI_suc]
        refine ⟨_, rfl, rfl, hsame (fun q hq z => ?_)⟩
        rw [hH, Bool.and_eq_true, z] at hq
        exact ha hq.2
    · rw [if_neg (fun z => hs ((yr_sub k hk th ht).mp z)), xo_nm_b, zI_suc]
      refine ⟨_, rfl, rfl, hsame (fun q hq z => hs ?_)⟩
      rw [← z, Nat.and_assoc, Nat.and_self]
  · rintro ⟨x, t2⟩ ⟨e1, e2⟩
    dsimp only at e1 e2 ⊢
    subst e1
    unfold F_Mod_lay_b315
    rw [zI_128, if_pos (zI_rfl _)]
    refine ⟨_, rfl, yS_cong e2 (fun _ _ => rfl) (fun q hq => ?_)⟩
    have : q &&& th < 128 := Nat.lt_of_le_of_lt Nat.and_le_left hq
    simp [this]
