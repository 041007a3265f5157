/-! lay, whole -/
theorem yf_k_sp (A B C : Nat → Int) (n q i j : Nat) (h : gp_f A B C i j = true) : yf_k A B C n q i j = if gy_h A B C n i j q = true then 1 else 0 := if_pos h
theorem yf_1_t {A B C : Nat → Int} {i j : Nat} (h : gp_f A B C i j = true) : yf_1 A B C i j = 1 := if_pos h
theorem yS_I {st t : XS} {E : Nat → Bool} {K : Nat → Nat} {p s m : Nat} (h : yS st t E K p s m) : (∀ v : Nat, yS st (xs_I t 0 20 (zI (v : Int))) E K v s m) ∧ (∀ v : Nat, yS st (xs_I t 0 21 (zI (v : Int))) E K p v m) ∧ (∀ v : Nat, yS st (xs_I t 0 22 (zI (v : Int))) E K p s v) := by
  obtain ⟨h1, h2, h3, h4, h5⟩ := h
  have hu : ∀ (j : Nat) (v : Int32), 20 ≤ j → lU st (xs_I t 0 j v) := fun j v hj => lU_trans h1 ⟨rfl, fun k h0 h18 h19 => by simp [xs_I, h0], fun i hi => by
    have : i ≠ j := by omega
    simp [xs_I, upd, this]⟩
  refine ⟨fun v => ⟨hu 20 _ (by omega), fun q hq => by simpa [xs_I] using h2 q hq, by simp [xs_I, upd], by simpa [xs_I, upd] using h4, by simpa [xs_I, upd] using h5⟩, fun v => ⟨hu 21 _ (by omega), fun q hq => by simpa [xs_I] using h2 q hq, by simpa [xs_I, upd] using h3, by simp [xs_I, upd], by simpa [xs_I, upd] using h5⟩, fun v => ⟨hu 22 _ (by omega), fun q hq => by simpa [xs_I] using h2 q hq, by simpa [xs_I, upd] using h3, by simpa [xs_I, upd] using h4, by simp [xs_I, upd]⟩⟩
theorem e_lay_pair {st t : XS} {n : Nat} {A B C : Nat → Int} {E : Nat → Bool} {K : Nat → Nat} {p s m : Nat} (hm : mL st n A B C) (h : yS st t E K p s m) (hK : ∀ q, K q ≤ 10000) (hmm : m ≤ 7) {i j : Nat} (hij : i < j) (hj : j < n) : ∃ r, F_Mod_lay_b190 (zI (n : Int)) (zI (j : Int)) (zI (i : Int)) t = some (.inl (zI ((i + 1 : Nat) : Int), r)) ∧ yS st r E (fun q => K q + yf_k A B C n q i j) (p + yf_1 A B C i j) (s + yf_s A B C n i j) (if m < yf_m A B C n i j then yf_m A B C n i j else m) := by
  have h7 := hm.1
  have hmt := mL_u hm h.1
  unfold F_Mod_lay_b190
  rw [if_neg (zI_ge1 (by omega) hij), e_misFirst hmt hij hj, Option.bind_some]
  by_cases hf : gp_f A B C i j = true
  · rw [if_pos hf, if_neg (by decide), xo_nm_b, h.2.2.1, zI_suc]
    have h1 := (yS_I h).1 (p + 1)
    generalize xs_I t 0 20 (zI ((p + 1 : Nat) : Int)) = t1 at *
    have hth := gy_t_lt (A := A) (B := B) (C := C) h7 i j
    have hcnt : fb_ct (gy_t A B C n i j).testBit 8 = gp_th A B C n (i, j) := by
      unfold gy_t; rw [ct_bm _ (by omega)]; rfl
    have htl := gp_th_le A B C n (i, j)
    rw [e_lay_tf (mL_u hm h1.1) (by omega) hj, Option.bind_some]
    unfold xo_u2
    dsimp only
    rw [e_icount _ (by omega), Option.bind_some, hcnt]
    have key : ∀ (t2 : XS) (s2 : Nat), yS st t2 E K (p + 1) s2 m → ∃ r, F_Mod_lay_m299 (zI (n : Int)) (zI (j : Int)) (zI (i : Int)) (zI ((gy_t A B C n i j : Nat) : Int)) (zI ((gy_f A B C n i j : Nat) : Int)) (zI ((gp_th A B C n (i, j) : Nat) : Int)) t2 = some (.inl (zI ((i + 1 : Nat) : Int), r)) ∧ yS st r E (fun q => K q + yf_k A B C n q i j) (p + 1) s2 (if m < gp_th A B C n (i, j) then gp_th A B C n (i, j) else m) := by
      intro t2 s2 h2
      unfold F_Mod_lay_m299
      have e : (if t2.1 0 22 < zI ((gp_th A B C n (i, j) : Nat) : Int) then zI ((gp_th A B C n (i, j) : Nat) : Int) else t2.1 0 22) = zI ((if m < gp_th A B C n (i, j) then gp_th A B C n (i, j) else m : Nat) : Int) := by
        rw [h2.2.2.2.2]
        by_cases hc : m < gp_th A B C n (i, j)
        · rw [if_pos (by rw [zI_lt (zB_n (by omega)) (zB_n (by omega))]; omega), if_pos hc]
        · rw [if_neg (by rw [zI_lt (zB_n (by omega)) (zB_n (by omega))]; omega), if_neg hc]
      rw [e, xo_nm_b]
      have h3 := (yS_I h2).2.2 (if m < gp_th A B C n (i, j) then gp_th A B C n (i, j) else m)
      obtain ⟨r, g1, g2⟩ := e_lay_rest hm h3 hK (i := i) (j := j) (zI (j : Int)) (zI (i : Int))
      rw [g1, Option.bind_some, xo_nm_b, zI_suc]
      exact ⟨r, rfl, yS_cong g2 (fun _ _ => rfl) (fun q _ => by rw [yf_k_sp A B C n q i j hf])⟩
    have em : yf_m A B C n i j = gp_th A B C n (i, j) := if_pos hf
    have es : yf_s A B C n i j = if 3 ≤ gp_th A B C n (i, j) then 1 else 0 := if_pos hf
    rw [yf_1_t hf, em, es]
    have e2 : (2 : Int32) = zI 2 := rfl
    by_cases hc : 3 ≤ gp_th A B C n (i, j)
    · rw [e2, if_neg (by rw [zI_le (zB_n (by omega)) (by decide)]; omega), if_pos hc, xo_nm_b, h1.2.2.2.1, zI_suc]
      exact key _ _ ((yS_I h1).2.1 (s + 1))
    · rw [e2, if_pos (by rw [zI_le (zB_n (by omega)) (by decide)]; omega), if_neg hc]
      exact key _ _ h1
  · rw [if_neg hf, if_pos (show zI 0 = 0 from rfl), xo_nm_b, zI_suc]
    have ek : ∀ q, yf_k A B C n q i j = 0 := fun q => if_neg hf
    have e1 : yf_1 A B C i j = 0 := if_neg hf
    have em : yf_m A B C n i j = 0 := if_neg hf
    have es : yf_s A B C n i j = 0 := if_neg hf
    rw [e1, em, es, if_neg (Nat.not_lt_zero m)]
    exact ⟨t, rfl, yS_cong h (fun _ _ => rfl) (fun q _ => by rw [ek q]; rfl)⟩
theorem fS_yk (A B C : Nat → Int) {n : Nat} (h7 : n ≤ 7) {j i : Nat} (hj : j ≤ n) (hi : i ≤ n) (q : Nat) : fS (yf_k A B C n q) j i ≤ 10000 := by
  have := fS_bd (f := yf_k A B C n q) (fun i j => yf_k_le A B C n q i j) (j := j) (i := i) (by omega) (by omega)
  omega
theorem gM_7 (A B C : Nat → Int) {n : Nat} (h7 : n ≤ 7) (j i : Nat) : rM (fun i => yf_m A B C n i j) (gM (yf_m A B C n) j) i ≤ 7 := by
  rw [rM_le]
  refine ⟨gM_le.mpr (fun a _ b _ => ?_), fun k _ => ?_⟩
  · have := yf_m_le A B C n b a; omega
  · have := yf_m_le A B C n k j
    omega
theorem e_lay_row {st t : XS} {n : Nat} {A B C : Nat → Int} {E : Nat → Bool} (hm : mL st n A B C) {j : Nat} (hj : j < n) (h : yS st t E (fun q => fS (yf_k A B C n q) j 0) (fS (yf_1 A B C) j 0) (fS (yf_s A B C n) j 0) (gM (yf_m A B C n) j)) : ∃ r, xo_lp (fun q : (Int32 × XS) => F_Mod_lay_b190 (zI (n : Int)) (zI (j : Int)) q.1 q.2) 1000000 ((0 : Int32), t) = some r ∧ yS st r E (fun q => fS (yf_k A B C n q) (j + 1) 0) (fS (yf_1 A B C) (j + 1) 0) (fS (yf_s A B C n) (j + 1) 0) (gM (yf_m A B C n) (j + 1)) := by
  have h7 := hm.1
  refine lp_inv (fun (i : Nat) (x : Int32 × XS) => x.1 = zI (i : Int) ∧ yS st x.2 E (fun q => fS (yf_k A B C n q) j i) (fS (yf_1 A B C) j i) (fS (yf_s A B C n) j i) (rM (fun i => yf_m A B C n i j) (gM (yf_m A B C n) j) i)) _ j 1000000 _ (by omega) ⟨rfl, h⟩ ?_ ?_
  · rintro i ⟨x, t2⟩ hi ⟨e1, e2⟩
    dsimp only at e1 e2 ⊢
    subst e1
    obtain ⟨r, g1, g2⟩ := e_lay_pair hm e2 (fun q => fS_yk A B C h7 (by omega) (by omega) q) (gM_7 A B C h7 j i) hi hj
    refine ⟨_, g1, rfl, ?_⟩
    rw [fS_i, fS_i, rM_suc]
    exact yS_cong g2 (fun _ _ => rfl) (fun q _ => by rw [fS_i])
  · rintro ⟨x, t2⟩ ⟨e1, e2⟩
    dsimp only at e1 e2 ⊢
    subst e1
    unfold F_Mod_lay_b190
    rw [if_pos (zI_rfl _)]
    refine ⟨_, rfl, ?_⟩
    rw [fS_j, fS_j, gM_suc]
    exact yS_cong e2 (fun _ _ => rfl) (fun q _ => by rw [fS_j])
theorem e_lay {st : XS} {n : Nat} {A B C : Nat → Int} (hm : mL st n A B C) : ∃ t, F_Mod_lay (zI (n : Int)) st = some t ∧ yS st t (gy_E A B n n) (fun q => fS (yf_k A B C n q) n 0) (fS (yf_1 A B C) n 0) (fS (yf_s A B C n) n 0) (gM (yf_m A B C n) n) := by
  have h7 := hm.1
  have hend : ∀ t : XS, yS st t (gy_E A B n 0) (fun _ => 0) 0 0 0 → ∃ r, F_Mod_lay_m62 (zI (n : Int)) t = some r ∧ yS st r (gy_E A B n n) (fun q => fS (yf_k A B C n q) n 0) (fS (yf_1 A B C) n 0) (fS (yf_s A B C n) n 0) (gM (yf_m A B C n) n) := by
    intro t ht
    unfold F_Mod_lay_m62
    obtain ⟨r1, g1, g2⟩ := e_lay_ends hm ht
    rw [g1, Option.bind_some]
    suffices hs : ∃ r, xo_lp (fun q : (Int32 × XS) => F_Mod_lay_b183 (zI (n : Int)) q.1 q.2) 1000000 ((0 : Int32), r1) = some r ∧ yS st r (gy_E A B n n) (fun q => fS (yf_k A B C n q) n 0) (fS (yf_1 A B C) n 0) (fS (yf_s A B C n) n 0) (gM (yf_m A B C n) n) by
      obtain ⟨r, h1, h2⟩ := hs
      rw [h1]; exact ⟨r, rfl, h2⟩
    refine lp_inv (fun (j : Nat) (x : Int32 × XS) => x.1 = zI (j : Int) ∧ yS st x.2 (gy_E A B n n) (fun q => fS (yf_k A B C n q) j 0) (fS (yf_1 A B C) j 0) (fS (yf_s A B C n) j 0) (gM (yf_m A B C n) j)) _ n 1000000 _ (by omega) ⟨rfl, g2⟩ ?_ ?_
    · rintro j ⟨x, t2⟩ hj ⟨e1, e2⟩
      dsimp only at e1 e2 ⊢
      subst e1
      unfold F_Mod_lay_b183
      obtain ⟨r, k1, k2⟩ := e_lay_row hm hj e2
      rw [if_neg (zI_ge1 (by omega) hj), k1, Option.bind_some, xo_nm_b, zI_suc]
      exact ⟨_, rfl, rfl, k2⟩
    · rintro ⟨x, t2⟩ ⟨e1, e2⟩
      dsimp only at e1 e2 ⊢
      subst e1
      unfold F_Mod_lay_b183
      rw [if_pos (zI_rfl _)]
      exact ⟨_, rfl, e2⟩
  unfold F_Mod_lay
  rw [xo_nm_b, xo_nm_b, xo_nm_b]
  obtain ⟨r, g1, g2⟩ := e_lay_zero (st := st) (t := xs_I (xs_I (xs_I st 0 20 (0 : Int32)) 0 21 (0 : Int32)) 0 22 (0 : Int32)) ⟨rfl, fun k h0 h18 h19 => by simp [xs_I, h0], fun j hj => by
    have h20 : j ≠ 20 := by omega
    have h21 : j ≠ 21 := by omega
    have h22 : j ≠ 22 := by omega
    simp [xs_I, upd, h20, h21, h22]⟩ (by simp [xs_I, upd]; rfl) (by simp [xs_I, upd]; rfl) (by simp [xs_I, upd]; rfl) (zI (n : Int))
  rw [g1, Option.bind_some]
  by_cases hn : n = 0
  · subst hn
    rw [if_pos (show zI ((0 : Nat) : Int) = 0 from rfl)]
    have e0 : (0 : Int32) = zI ((0 : Nat) : Int) := rfl
    have ec : xo_ck 128 (0 : Int32) = some () := rfl
    have et : (0 : Int32).toNatClampNeg = 0 := rfl
    rw [ec, Option.bind_some, xo_nm_b, Option.bind_some, xo_nm_b, et, nar_1]
    have h3 := yS_put g2 0
    refine hend _ (yS_cong h3 (fun q _ => ?_) (fun _ _ => rfl))
    unfold gy_E
    simp [an]
  · rw [if_neg (by rw [zI_0, zI_eq (zB_n (by omega)) (by decide)]; omega)]
    refine hend _ (yS_cong g2 (fun q _ => ?_) (fun _ _ => rfl))
    unfold gy_E
    simp [an, hn]
