/-! the reference: where a point lies; quarters about a point -/
theorem an_mono {P : Nat → Bool} {k n : Nat} (hk : k ≤ n) (h : an P k = true) : an P n = true := by
  obtain ⟨s, hs, hp⟩ := an_iff.mp h
  exact an_iff.mpr ⟨s, by omega, hp⟩
theorem e_mat {st : XS} {n : Nat} {A B C : Nat → Int} (h : mL st n A B C) (h0 : st.1 0 0 = zI (n : Int)) {x y : Int} (hx : ab 20 x) (hy : ab 20 y) : F_Mod_at (zI x) (zI y) st = some (zI (gw A B C n x y)) := by
  have h7 := h.1
  unfold F_Mod_at
  suffices hs : ∃ r, xo_lp (fun q : (Int32 × Int32) => F_Mod_at_b5 (zI x) (zI y) st q.1 q.2) 1000000 ((0 : Int32), (0 : Int32)) = some r ∧ r = (if gw_z A B C n x y = true then Sum.inl () else Sum.inr (zI (gw_b A B C n x y : Int))) by
    obtain ⟨r, h1, h2⟩ := hs
    rw [h1, h2, Option.bind_some]
    unfold gw
    split <;> rfl
  refine lp_ex (fun (k : Nat) (q : Int32 × Int32) => q = (zI ((bm (fun s => decide (0 < gz_h A B C s x y 1)) k : Nat) : Int), zI (k : Int)) ∧ an (fun s => decide (gz_h A B C s x y 1 = 0)) k = false) _ n 1000000 _ (by omega) ⟨rfl, rfl⟩ ?_ ?_
  · rintro k q hk ⟨rfl, h2⟩
    dsimp only
    unfold F_Mod_at_b5
    rw [h0, if_neg (zI_ge1 (by omega) hk), e_mside h hk hx hy, Option.bind_some]
    by_cases hz : gz_h A B C k x y 1 = 0
    · rw [if_pos (sg3_z.mpr hz)]
      exact Or.inr ⟨_, rfl, (if_pos (an_iff.mpr ⟨k, hk, by simp [hz]⟩)).symm⟩
    · rw [if_neg (fun z => hz (sg3_z.mp z))]
      refine Or.inl ⟨(zI ((bm (fun s => decide (0 < gz_h A B C s x y 1)) (k + 1) : Nat) : Int), zI ((k + 1 : Nat) : Int)), ?_, rfl, by rw [an_suc, h2]; simp [hz]⟩
      by_cases hp : 0 < gz_h A B C k x y 1
      · rw [if_neg (fun z => sg3_le.mp z hp), xo_nm_b, xo_nm_b, zI_suc, bm_suc_t (by omega) (by simp [hp])]
      · rw [if_pos (sg3_le.mpr hp), xo_nm_b, zI_suc, bm_suc_f (by simp [hp])]
  · rintro q ⟨rfl, h2⟩
    dsimp only
    unfold F_Mod_at_b5
    rw [h0, if_pos (zI_rfl _)]
    exact ⟨_, rfl, by unfold gw_z gw_b; rw [if_neg (by rw [h2]; decide)]⟩
/-- the class of a plot, in the reference -/
def pM (st : XS) (P : Nat) (X Y : Nat → Int) : Prop := st.1 0 5 = zI (P : Int) ∧ P ≤ 8 ∧ ∀ p, p < P → st.1 6 p = zI (X p) ∧ st.1 7 p = zI (Y p) ∧ ab 20 (X p) ∧ ab 20 (Y p)
theorem e_mwhere {st : XS} {n P : Nat} {A B C X Y : Nat → Int} (h : mL st n A B C) (h0 : st.1 0 0 = zI (n : Int)) (g : pM st P X Y) {p : Nat} (hp : p < P) : F_Mod_whereIs (zI (p : Int)) st = some (zI (gw A B C n (X p) (Y p))) := by
  have h8 := g.2.1
  obtain ⟨g1, g2, g3, g4⟩ := g.2.2 p hp
  unfold F_Mod_whereIs
  rw [xo_rd_z (by omega) (by decide), Option.bind_some, xo_rd_z (by omega) (by decide), Option.bind_some, g1, g2, e_mat h h0 g3 g4]; rfl
/-- lines about a point see the sides rest along line i, this way -/
def ga_bad (A B : Nat → Int) (i : Nat) (w : Bool) (th rest s : Nat) : Bool := decide (s ≠ i) && th.testBit s && (decide (0 < (if w then -1 else 1) * gz_t A B (A i) (B i) s) != rest.testBit s)
def ga_ok (A B : Nat → Int) (n th rest i : Nat) : Bool := th.testBit i && (!(an (ga_bad A B i false th rest) n) || !(an (ga_bad A B i true th rest) n))
theorem e_about1 {st : XS} {n : Nat} {A B C : Nat → Int} (h : mL st n A B C) {th rest i : Nat} (hth : th < 128) (hr : rest < 128) (hi : i < n) (w : Bool) : xo_lp (fun q : (Int32 × Int32) => F_Mod_isAbout_b36 (zI (th : Int)) (zI (rest : Int)) (zI (n : Int)) (zI (i : Int)) (zI (if w then 1 else 0)) st q.1 q.2) 1000000 ((1 : Int32), (0 : Int32)) = some (zI (if an (ga_bad A B i w th rest) n = true then 0 else 1)) := by
  have h7 := h.1
  suffices hs : ∃ r, xo_lp (fun q : (Int32 × Int32) => F_Mod_isAbout_b36 (zI (th : Int)) (zI (rest : Int)) (zI (n : Int)) (zI (i : Int)) (zI (if w then 1 else 0)) st q.1 q.2) 1000000 ((1 : Int32), (0 : Int32)) = some r ∧ r = zI (if an (ga_bad A B i w th rest) n = true then 0 else 1) by
    obtain ⟨r, h1, h2⟩ := hs
    rw [h1, h2]
  refine lp_ex (fun (k : Nat) (q : Int32 × Int32) => q = (zI (if an (ga_bad A B i w th rest) k = true then 0 else 1), zI (k : Int))) _ n 1000000 _ (by omega) rfl ?_ ?_
  · rintro k q hk rfl
    dsimp only
    unfold F_Mod_isAbout_b36
    rw [if_neg (zI_ge1 (by omega) hk)]
    by_cases hb : an (ga_bad A B i w th rest) k = true
    · rw [if_pos hb, if_pos (show zI 0 = 0 from rfl)]
      exact Or.inr ⟨_, rfl, by rw [if_pos (an_mono (by omega) hb)]⟩
    · rw [if_neg hb, if_neg (by decide)]
      refine Or.inl ⟨(zI (if an (ga_bad A B i w th rest) (k + 1) = true then 0 else 1), zI ((k + 1 : Nat) : Int)), ?_, rfl⟩
      have hb' : an (ga_bad A B i w th rest) k = false := by simpa using hb
      have hn : an (ga_bad A B i w th rest) (k + 1) = ga_bad A B i w th rest k := by rw [an_suc, hb', Bool.false_or]
      rw [hn]
      by_cases e : k = i
      · subst e
        rw [if_pos rfl, xo_nm_b, zI_suc, if_neg (by unfold ga_bad; simp)]
      · rw [if_neg (by rw [zI_eq (zB_n (by omega)) (zB_n (by omega))]; omega), e_mhas th hth k (by omega), Option.bind_some]
        by_cases ht : th.testBit k = true
        · rw [if_pos ht, if_neg (by decide)]
          have hm : ∀ v : Int32, v = zI (if w then 1 else 0) → F_Mod_isAbout_m79 (zI (th : Int)) (zI (rest : Int)) (zI (n : Int)) (zI (i : Int)) (zI (if w then 1 else 0)) (zI 1) (zI (k : Int)) (zI (k : Int)) (zI (i : Int)) v st = some (Sum.inl (zI (if ga_bad A B i w th rest k = true then 0 else 1), zI ((k + 1 : Nat) : Int))) := by
            rintro v rfl
            unfold F_Mod_isAbout_m79 F_Mod_isAbout_m90
            rw [e_malong h hk hi w, Option.bind_some, e_mhas rest hr k (by omega), Option.bind_some, xo_nm_b, xo_nm_b, zI_suc]
            by_cases hp : 0 < (if w then -1 else 1) * gz_t A B (A i) (B i) k
            · rw [if_neg (fun z => sg3_le.mp z hp)]
              by_cases hq : rest.testBit k = true
              · rw [if_pos hq, Option.bind_some, if_pos (show (1 : Int32) = zI 1 from rfl), if_neg (by unfold ga_bad; simp [hp, hq])]
              · rw [if_neg hq, Option.bind_some, if_neg (show ¬ (1 : Int32) = zI 0 by decide), if_pos (by unfold ga_bad; simp [hp, hq, ht, e])]; rfl
            · rw [if_pos (sg3_le.mpr hp)]
              by_cases hq : rest.testBit k = true
              · rw [if_pos hq, if_neg (by decide), if_pos (by unfold ga_bad; simp [hp, hq, ht, e])]; rfl
              · rw [if_neg hq, if_pos (show (0 : Int32) = zI 0 from rfl), if_neg (by unfold ga_bad; simp [hp, hq])]
          cases w with
          | true => rw [if_pos (show zI (if true = true then 1 else 0) = 1 from rfl)]; exact hm _ rfl
          | false => rw [if_neg (show ¬ zI (if false = true then 1 else 0) = 1 by decide)]; exact hm _ rfl
        · rw [if_neg ht, if_pos (show zI 0 = 0 from rfl), xo_nm_b, zI_suc, if_neg (by unfold ga_bad; simp [ht])]
  · rintro q rfl
    dsimp only
    unfold F_Mod_isAbout_b36
    rw [if_pos (zI_rfl _)]
    exact ⟨_, rfl, rfl⟩
theorem e_about {st : XS} {n : Nat} {A B C : Nat → Int} (h : mL st n A B C) {th rest : Nat} (hth : th < 128) (hr : rest < 128) : F_Mod_isAbout (zI (th : Int)) (zI (rest : Int)) (zI (n : Int)) st = some (zI (if an (ga_ok A B n th rest) n = true then 1 else 0)) := by
  have h7 := h.1
  unfold F_Mod_isAbout
  rw [lp_find (ga_ok A B n th rest) (.inl ()) (.inr ()) n (by omega) (fun k hk => ?_) ?_]
  · rw [Option.bind_some]
    split <;> rfl
  · unfold F_Mod_isAbout_b3
    rw [if_pos (zI_rfl _)]
  · unfold F_Mod_isAbout_b3
    rw [if_neg (zI_ge1 (by omega) hk), e_mhas th hth k (by omega), Option.bind_some]
    by_cases ht : th.testBit k = true
    · rw [if_pos ht, if_neg (by decide)]
      rw [lp_find (fun w => !(an (ga_bad A B k (decide (w = 1)) th rest) n)) (.inl ()) (.inr ()) 2 (by omega) (fun w hw => ?_) ?_]
      · rw [Option.bind_some, xo_nm_b, zI_suc]
        have e : an (fun w => !(an (ga_bad A B k (decide (w = 1)) th rest) n)) 2 = ga_ok A B n th rest k := by
          unfold ga_ok
          rw [ht, an_suc, an_suc]
          simp [an]
        rw [e]
        split <;> rfl
      · unfold F_Mod_isAbout_b24
        rw [if_pos (show (2 : Int32) ≤ zI ((2 : Nat) : Int) by decide)]
      · unfold F_Mod_isAbout_b24
        have hw2 : zI (w : Int) = zI (if decide (w = 1) then 1 else 0) := by
          rcases (show w = 0 ∨ w = 1 by omega) with rfl | rfl <;> rfl
        rw [if_neg (by rw [show (2 : Int32) = zI ((2 : Nat) : Int) from rfl]; exact zI_ge1 (by omega) hw)]
        have h1 := e_about1 h hth hr hk (decide (w = 1))
        rw [← hw2] at h1
        rw [h1, Option.bind_some, xo_nm_b, zI_suc]
        cases an (ga_bad A B k (decide (w = 1)) th rest) n
        · rw [if_neg (show ¬ zI (if false = true then 0 else 1) = 0 by decide), if_pos (show (!false) = true from rfl)]
        · rw [if_pos (show zI (if true = true then 0 else 1) = 0 from rfl), if_neg (show ¬ (!true) = true by decide)]
    · rw [if_neg ht, if_pos (show zI 0 = 0 from rfl), xo_nm_b, zI_suc, if_neg (by unfold ga_ok; simp [ht])]
