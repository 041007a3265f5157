/-! most -/
theorem ex_p {A B C : Nat → Int} {n i j : Nat} {p q r : Int} (hi : i < n) (hj : j < n) : gz_p (ex A n p) (ex B n q) (ex C n r) i j n = p * gz_X A B C (A i) (B i) (C i) j + q * gz_Y A B C (A i) (B i) (C i) j - r * gz_W A B (A i) (B i) j := by
  unfold gz_p gz_e
  rw [ex_hn]
  unfold gz_X gz_Y gz_W gz_t
  rw [ex_o p hi, ex_o q hi, ex_o r hi, ex_o p hj, ex_o q hj, ex_o r hj]
theorem ex_on {A B C : Nat → Int} {n i j : Nat} {p q r : Int} (hi : i < n) (hj : j < n) : gz_p (ex A n p) (ex B n q) (ex C n r) i j n = 0 ↔ gp_on A B C p q r (i, j) = true := by
  rw [ex_p hi hj]
  unfold gp_on
  rw [decide_eq_true_eq]
  dsimp only
  omega
def yf_o (A B C : Nat → Int) (p q r : Int) (i j : Nat) : Nat := if gp_f A B C i j = true then (if gp_on A B C p q r (i, j) = true then 1 else 0) else 0
theorem fS_o (A B C : Nat → Int) (p q r : Int) (n : Nat) : fS (yf_o A B C p q r) n 0 = ls_sm (fun x => if gp_on A B C p q r x = true then 1 else 0) (gp_ls A B C n n) := by
  rw [ls_sm_pr, ← fS_pr]; rfl
def mo (A B C : Nat → Int) (n : Nat) (p q : Int) (i : Nat) : Nat := ls_sm (fun x => if gp_on A B C p q ((i : Int) - 99) x = true then 1 else 0) (gp_ls A B C n n)
theorem mo_le (A B C : Nat → Int) {n : Nat} (h6 : n ≤ 6) (p q : Int) (i : Nat) : mo A B C n p q i ≤ 15 := Nat.le_trans (ls_sm_le _ _) (gp_ls_15 A B C h6)
theorem mx_if {f : Nat → Nat} {i : Nat} (h : ∀ k, f k ≤ 15) : (if zI ((fb_mx f i : Nat) : Int) < zI ((f i : Nat) : Int) then zI ((f i : Nat) : Int) else zI ((fb_mx f i : Nat) : Int)) = zI ((fb_mx f (i + 1) : Nat) : Int) := by
  have h1 := h i
  have h2 : fb_mx f i ≤ 15 := fb_mx_le.mpr (fun k _ => h k)
  rw [fb_mx_suc]
  by_cases hc : fb_mx f i < f i
  · rw [if_pos (by rw [zI_lt (zB_n (by omega)) (zB_n (by omega))]; omega), if_pos hc]
  · rw [if_neg (by rw [zI_lt (zB_n (by omega)) (zB_n (by omega))]; omega), if_neg hc]
theorem e_mostL {sc : XS} {n : Nat} {A B C : Nat → Int} (hc : cL sc n A B C) (hP : gP A B C n sc (gp_ls A B C n n)) {a b : Int} (ha : ab 9 a) (hb : ab 9 b) : xo_lp (fun q : (Int32 × Int32) => F_All_most_b25 (zI a) (zI b) sc q.1 q.2) 1000000 ((0 : Int32), (-99 : Int32)) = some (zI ((fb_mx (mo A B C n a b) 199 : Nat) : Int)) := by
  have h6 := hc.2.1
  refine lp_run (fun i => (zI ((fb_mx (mo A B C n a b) i : Nat) : Int), ix 99 i)) 199 1000000 (by omega) (fun i hi => ?_) ?_
  · unfold F_All_most_b25
    dsimp only
    have e1 : F_Pla_pointsOn (zI a) (zI b) (ix 99 i) sc = some (zI ((mo A B C n a b i : Nat) : Int)) := e_pointsOn hc hP ha hb (ix_ab hi)
    rw [if_neg (fun z => by have := (ix_gt (by omega)).mp z; omega), e1, Option.bind_some, xo_nm_b, xo_nm_b, ix_suc, mx_if (mo_le A B C h6 a b)]
  · unfold F_All_most_b25
    dsimp only
    rw [if_pos ((ix_gt (by omega)).mpr (by omega))]
theorem e_mmany {t : XS} {n : Nat} {A B C : Nat → Int} {p q r : Int} (h6 : n ≤ 6) (hm : mL t n A B C) (hm2 : mL t (n + 1) (ex A n p) (ex B n q) (ex C n r)) (hn : t.1 0 0 = zI (n : Int)) (x1 x2 x3 x4 : Int32) : xo_lp (fun q : (Int32 × Int32) => F_Mod_most_b93 x1 x2 x3 x4 t q.1 q.2) 1000000 ((0 : Int32), (0 : Int32)) = some (zI ((fS (yf_o A B C p q r) n 0 : Nat) : Int)) := by
  refine lp_run (fun j => (zI ((fS (yf_o A B C p q r) j 0 : Nat) : Int), zI (j : Int))) n 1000000 (by omega) (fun j hj => ?_) ?_
  · unfold F_Mod_most_b93
    dsimp only
    rw [hn, if_neg (zI_ge1 (by omega) hj)]
    rw [lp_go (fun i => (zI ((fS (yf_o A B C p q r) j i : Nat) : Int), zI (i : Int))) j (zI ((fS (yf_o A B C p q r) j j : Nat) : Int)) (by rfl) (by omega) (fun i hi => ?_) ?_]
    · rw [xo_nm_b, zI_suc, fS_j]
    · unfold F_Mod_most_b105
      dsimp only
      rw [if_pos (zI_rfl _)]
    · unfold F_Mod_most_b105
      dsimp only
      rw [if_neg (zI_ge1 (by omega) hi), e_misFirst hm hi hj, Option.bind_some, hn, e_msoc hm2 (show n < n + 1 by omega) (show i < n + 1 by omega) (show j < n + 1 by omega), Option.bind_some, fS_i]
      simp only [xo_nm_b, zI_suc]
      by_cases hf : gp_f A B C i j = true
      · have ey : yf_o A B C p q r i j = if gp_on A B C p q r (i, j) = true then 1 else 0 := if_pos hf
        have ho := ex_on (A := A) (B := B) (C := C) (p := p) (q := q) (r := r) (show i < n by omega) hj
        rw [ey, if_pos hf, if_neg (by decide)]
        by_cases hg : gp_on A B C p q r (i, j) = true
        · rw [if_pos hg, if_pos (sg3_z.mpr (ho.mpr hg))]
        · rw [if_neg hg, if_neg (fun z => hg (ho.mp (sg3_z.mp z)))]; rfl
      · have ey : yf_o A B C p q r i j = 0 := if_neg hf
        rw [ey, if_neg hf, if_pos (show zI 0 = 0 from rfl)]; rfl
  · unfold F_Mod_most_b93
    dsimp only
    rw [hn, if_pos (zI_rfl _)]
theorem e_mmostL {sm : XS} {n : Nat} {A B C : Nat → Int} {a b : Int} (h6 : n ≤ 6) (ha : ab 9 a) (hb : ab 9 b) (hm : mL sm n A B C) (hn : sm.1 0 0 = zI (n : Int)) : ∃ r, xo_lp (fun q : (Int32 × Int32 × XS) => F_Mod_most_b72 (zI a) (zI b) q.1 q.2.1 q.2.2) 1000000 ((0 : Int32), (-99 : Int32), sm) = some r ∧ r.1 = zI ((fb_mx (mo A B C n a b) 199 : Nat) : Int) ∧ mS n sm r.2 := by
  refine lp_inv (fun (i : Nat) (x : Int32 × Int32 × XS) => x.1 = zI ((fb_mx (mo A B C n a b) i : Nat) : Int) ∧ x.2.1 = ix 99 i ∧ mS n sm x.2.2) _ 199 1000000 _ (by omega) ⟨rfl, rfl, mS_rfl n sm⟩ ?_ ?_
  · rintro i ⟨x, y, t⟩ hi ⟨e1, e2, e3⟩
    dsimp only at e1 e2 e3 ⊢
    subst e1; subst e2
    unfold F_Mod_most_b72
    have hnt : t.1 0 0 = zI (n : Int) := (e3.2.1 0 (by omega)).trans hn
    obtain ⟨t1, g1, g2, g3⟩ := e_think h6 (mL_S hm e3) hnt ha hb (ix_ab hi)
    have g1' : F_Mod_think (zI a) (zI b) (ix 99 i) t = some t1 := g1
    have hS := mS_trans e3 g2
    have hmany := e_mmany h6 (mL_S hm hS) g3 ((hS.2.1 0 (by omega)).trans hn) (zI a) (zI b) (zI ((fb_mx (mo A B C n a b) i : Nat) : Int)) (ix 99 i)
    rw [fS_o] at hmany
    have e9 : ls_sm (fun x => if gp_on A B C a b ((i : Int) - 99) x = true then 1 else 0) (gp_ls A B C n n) = mo A B C n a b i := rfl
    rw [e9] at hmany
    rw [if_neg (fun z => by have := (ix_ge (by omega)).mp z; omega), g1', Option.bind_some, hmany, Option.bind_some, xo_nm_b, xo_nm_b, ix_suc, mx_if (mo_le A B C h6 a b)]
    exact ⟨_, rfl, rfl, rfl, hS⟩
  · rintro ⟨x, y, t⟩ ⟨e1, e2, e3⟩
    dsimp only at e1 e2 e3 ⊢
    subst e1; subst e2
    unfold F_Mod_most_b72
    rw [if_pos ((ix_ge (by omega)).mpr (by omega))]
    exact ⟨_, rfl, rfl, e3⟩
theorem s_most (sc sm : XS) (x1 x2 : Int32) (h : xz_RR sc sm) : ∃ (r : Int32) (sc2 sm2 : XS), F_All_most x1 x2 sc = some (r, sc2) ∧ F_Mod_most x1 x2 sm = some (r, sm2) ∧ xz_RR sc2 sm2 := by
  obtain ⟨a, ha, rfl⟩ := zI_of x1
  obtain ⟨b, hb, rfl⟩ := zI_of x2
  have hq := h
  obtain ⟨⟨n, A, B, C, Kd, P, X, Y, hc, hok, hpl, hkd, hp, hn, hm, hpm⟩, h2, h3, h4, h5⟩ := h
  have h6 := hc.2.1
  have hw : F_All_whyNoNewLine (zI a) (zI b) (0 : Int32) sc = some (zI (if gwhy a b 0 = 0 then (if an (fun s => decide (gz_t A B a b s = 0)) n = true then -3 else 0) else gwhy a b 0)) := e_whyNew (c := 0) hc ha hb (by decide)
  rw [e_mmost ha hb]
  unfold F_All_most F_Mod_most_m12 F_Mod_most_m31 F_Mod_most_m46 F_Mod_most_m59
  rw [hw, Option.bind_some]
  rcases gwhy_or a b 0 with e | e | e | e
  · rw [e, if_neg (show ¬ (-4 : Int) = 0 by decide), if_neg (show ¬ zI (-4) = 0 by decide), if_pos (show (-4 : Int) = -4 from rfl)]
    exact st_no4 hq
  · rw [e, if_neg (show ¬ (-6 : Int) = 0 by decide), if_neg (show ¬ zI (-6) = 0 by decide), if_neg (show ¬ (-6 : Int) = -4 by decide), if_pos (show (-6 : Int) = -6 from rfl)]
    exact st_no6 hq
  · rw [e, if_neg (show ¬ (-3 : Int) = 0 by decide), if_neg (show ¬ zI (-3) = 0 by decide), if_neg (show ¬ (-3 : Int) = -4 by decide), if_neg (show ¬ (-3 : Int) = -6 by decide), if_pos (show (-3 : Int) = -3 from rfl)]
    exact st_no3 hq
  · obtain ⟨w1, w2, w3, w4⟩ := gwhy_0 e
    rw [e, if_pos rfl, if_neg (by decide : ¬ (0 : Int) = -4), if_neg (by decide : ¬ (0 : Int) = -6), if_neg (by decide : ¬ (0 : Int) = -3), hn, e_misDir hm w1 w2, Option.bind_some]
    by_cases hdr : an (fun s => decide (gz_t A B a b s = 0)) n = true
    · rw [if_pos hdr, if_pos hdr, if_neg (show ¬ zI (-3) = 0 by decide), if_neg (show ¬ zI 1 = 0 by decide)]
      exact st_no3 hq
    · rw [if_neg hdr, if_neg hdr, if_pos (show zI 0 = 0 from rfl), if_pos (show zI 0 = 0 from rfl)]
      obtain ⟨⟨v, t⟩, k3, k4, k5⟩ := e_mmostL (a := a) (b := b) h6 w1 w2 hm hn
      dsimp only at k4 k5
      rw [e_mostL hc hpl.1 w1 w2, k3, Option.bind_some, Option.bind_some, k4]
      exact ⟨_, sc, t, rfl, rfl, RR_S hq hn (by omega) k5⟩
