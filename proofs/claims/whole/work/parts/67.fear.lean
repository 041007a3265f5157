/-! fear -/
def fv (A B : Nat → Int) (n : Nat) (a b : Int) : Bool := !(decide (a = 0 ∧ b = 0)) && !(an (fun s => decide (gz_t A B a b s = 0)) n)
def fl (A B : Nat → Int) (n : Nat) (a : Int) (j : Nat) : Nat := if fv A B n a ((j : Int) - 2) = true then 19 else 0
def fd (A B C : Nat → Int) (n m : Nat) (a b : Int) (i : Nat) : Bool := gc_K A B C a b ((i : Int) - 9) n n m
def fk (A B C : Nat → Int) (n : Nat) (w : Bool) (m : Nat) (a : Int) (j : Nat) : Nat := if fv A B n a ((j : Int) - 2) = true then (if w then 0 else fb_ct (fd A B C n m a ((j : Int) - 2)) 19) else 0
theorem ix9_gt {i : Nat} (h : i ≤ 1000) : (9 : Int32) < ix 9 i ↔ 19 ≤ i := by
  unfold ix
  rw [show (9 : Int32) = zI 9 from rfl, zI_lt (by decide) (ix_B (by omega) (by omega) h)]; omega
theorem ix9_ge {i : Nat} (h : i ≤ 1000) : (10 : Int32) ≤ ix 9 i ↔ 19 ≤ i := by
  unfold ix
  rw [show (10 : Int32) = zI 10 from rfl, zI_le (by decide) (ix_B (by omega) (by omega) h)]; omega
theorem ix2_gt {i : Nat} (h : i ≤ 1000) : (2 : Int32) < ix 2 i ↔ 5 ≤ i := by
  unfold ix
  rw [show (2 : Int32) = zI 2 from rfl, zI_lt (by decide) (ix_B (by omega) (by omega) h)]; omega
theorem ix2_ge {i : Nat} (h : i ≤ 1000) : (3 : Int32) ≤ ix 2 i ↔ 5 ≤ i := by
  unfold ix
  rw [show (3 : Int32) = zI 3 from rfl, zI_le (by decide) (ix_B (by omega) (by omega) h)]; omega
theorem ix9_ab {i : Nat} (h : i < 19) : ab 99 ((i : Int) - 9) := by unfold ab; omega
theorem e_feared {sc : XS} {n m : Nat} {A B C : Nat → Int} (hc : cL sc n A B C) {a b : Int} (ha : ab 9 a) (hb : ab 9 b) (hm : m < 64) : F_All_fearedLines (zI a) (zI b) (zI (m : Int)) sc = some (zI ((fb_ct (fd A B C n m a b) 19 : Nat) : Int)) := by
  unfold F_All_fearedLines
  refine (lp_go (fun i => (zI ((fb_ct (fd A B C n m a b) i : Nat) : Int), ix 9 i)) 19 (zI ((fb_ct (fd A B C n m a b) 19 : Nat) : Int)) (by rfl) (by omega) (fun i hi => ?_) ?_).trans rfl
  · unfold F_All_fearedLines_b7
    dsimp only
    have e2 : F_Pla_cutBy (zI a) (zI b) (ix 9 i) sc = some (lS (gc_K A B C a b ((i : Int) - 9) n n)) := e_cut hc ha hb (ix9_ab hi)
    rw [if_neg (fun z => by have := (ix9_gt (by omega)).mp z; omega), e2, Option.bind_some, e_hasN _ hm, Option.bind_some, fb_ct_succ]
    simp only [xo_nm_b, zI_suc, ix_suc]
    have e3 : fd A B C n m a b i = gc_K A B C a b ((i : Int) - 9) n n m := rfl
    rw [e3]
    by_cases hk : gc_K A B C a b ((i : Int) - 9) n n m = true
    · rw [if_pos hk, if_neg (by decide), if_pos hk]
    · rw [if_neg hk, if_pos (show zI 0 = 0 from rfl), if_neg hk]; rfl
  · unfold F_All_fearedLines_b7
    dsimp only
    rw [if_pos ((ix9_gt (by omega)).mpr (by omega))]
theorem ab9_i {i : Nat} (h : i < 3) : ab 9 (i : Int) := by unfold ab; omega
theorem ab9_j {j : Nat} (h : j < 5) : ab 9 ((j : Int) - 2) := by unfold ab; omega
theorem gwhy_f {i j : Nat} (hi : i < 3) (hj : j < 5) : gwhy (i : Int) ((j : Int) - 2) 0 = if (i : Int) = 0 ∧ (j : Int) - 2 = 0 then -3 else 0 := by
  unfold gwhy
  rw [if_neg (by omega), if_neg (by omega)]
theorem e_whyF {sc : XS} {n : Nat} {A B C : Nat → Int} (hc : cL sc n A B C) {i j : Nat} (hi : i < 3) (hj : j < 5) : ∃ v : Int32, F_All_whyNoNewLine (zI (i : Int)) (ix 2 j) (0 : Int32) sc = some v ∧ (v = 0 ↔ fv A B n (i : Int) ((j : Int) - 2) = true) := by
  have hw : F_All_whyNoNewLine (zI (i : Int)) (ix 2 j) (0 : Int32) sc = some (zI (if gwhy (i : Int) ((j : Int) - 2) 0 = 0 then (if an (fun s => decide (gz_t A B (i : Int) ((j : Int) - 2) s = 0)) n = true then -3 else 0) else gwhy (i : Int) ((j : Int) - 2) 0)) := e_whyNew (c := 0) hc (zB_n (by omega)) (ix_B (by omega) (by omega) (by omega)) (by decide)
  refine ⟨_, hw, ?_⟩
  rw [gwhy_f hi hj]
  unfold fv
  by_cases h0 : (i : Int) = 0 ∧ (j : Int) - 2 = 0
  · rw [if_pos h0, if_neg (by decide), decide_eq_true h0]
    exact ⟨fun z => absurd z (by decide), fun z => by cases z⟩
  · rw [if_neg h0, if_pos rfl, decide_eq_false h0]
    by_cases hd : an (fun s => decide (gz_t A B (i : Int) ((j : Int) - 2) s = 0)) n = true
    · rw [if_pos hd, hd]
      exact ⟨fun z => absurd z (by decide), fun z => by cases z⟩
    · rw [if_neg hd]
      have : an (fun s => decide (gz_t A B (i : Int) ((j : Int) - 2) s = 0)) n = false := by simpa using hd
      rw [this]
      exact ⟨fun _ => rfl, fun _ => rfl⟩
theorem e_fearRow {sc : XS} {n m : Nat} {A B C : Nat → Int} (hc : cL sc n A B C) (w : Bool) {x3 : Int32} (hx3 : w = false → m < 64 ∧ x3 = zI (m : Int)) {i : Nat} (hi : i < 3) (L K : Nat) : xo_lp (fun q : (Int32 × Int32 × Int32) => F_All_fear_b74 (zI (if w then 1 else 0)) x3 (zI (i : Int)) sc q.1 q.2.1 q.2.2) 1000000 (zI (L : Int), zI (K : Int), (-2 : Int32)) = some (zI ((L + fb_sm (fl A B n (i : Int)) 5 : Nat) : Int), zI ((K + fb_sm (fk A B C n w m (i : Int)) 5 : Nat) : Int)) := by
  refine lp_run (fun j => (zI ((L + fb_sm (fl A B n (i : Int)) j : Nat) : Int), zI ((K + fb_sm (fk A B C n w m (i : Int)) j : Nat) : Int), ix 2 j)) 5 1000000 (by omega) (fun j hj => ?_) ?_
  · unfold F_All_fear_b74
    dsimp only
    obtain ⟨v, e1, e2⟩ := e_whyF hc hi hj
    rw [if_neg (fun z => by have := (ix2_gt (by omega)).mp z; omega), e1, Option.bind_some, fb_sm_succ, fb_sm_succ]
    simp only [xo_nm_b, ix_suc]
    by_cases hv : fv A B n (i : Int) ((j : Int) - 2) = true
    · have el : fl A B n (i : Int) j = 19 := if_pos hv
      have ek : fk A B C n w m (i : Int) j = if w then 0 else fb_ct (fd A B C n m (i : Int) ((j : Int) - 2)) 19 := if_pos hv
      have e19 : (19 : Int32) = zI ((19 : Nat) : Int) := rfl
      rw [if_pos (e2.mpr hv), el, ek, e19, zI_addn, Nat.add_assoc]
      cases w with
      | true =>
        rw [if_neg (show ¬ zI (if true = true then 1 else 0) = (0 : Int32) by decide), if_pos rfl]
        have e0 : (0 : Int32) = zI ((0 : Nat) : Int) := rfl
        rw [e0, zI_addn]; rfl
      | false =>
        obtain ⟨hm, rfl⟩ := hx3 rfl
        have ef : F_All_fearedLines (zI (i : Int)) (ix 2 j) (zI (m : Int)) sc = some (zI ((fb_ct (fd A B C n m (i : Int) ((j : Int) - 2)) 19 : Nat) : Int)) := e_feared hc (ab9_i hi) (ab9_j hj) hm
        rw [if_pos (show zI (if false = true then 1 else 0) = (0 : Int32) from rfl), ef, Option.bind_some, zI_addn, if_neg (by decide), Nat.add_assoc]
    · have el : fl A B n (i : Int) j = 0 := if_neg hv
      have ek : fk A B C n w m (i : Int) j = 0 := if_neg hv
      rw [if_neg (fun z => hv (e2.mp z)), el, ek]; rfl
  · unfold F_All_fear_b74
    dsimp only
    rw [if_pos ((ix2_gt (by omega)).mpr (by omega))]
def fL (A B : Nat → Int) (n i : Nat) : Nat := fb_sm (fun i => fb_sm (fl A B n (i : Int)) 5) i
def fK (A B C : Nat → Int) (n : Nat) (w : Bool) (m i : Nat) : Nat := fb_sm (fun i => fb_sm (fk A B C n w m (i : Int)) 5) i
theorem e_fearA {sc : XS} {n m : Nat} {A B C : Nat → Int} (hc : cL sc n A B C) (w : Bool) {x3 : Int32} (hx3 : w = false → m < 64 ∧ x3 = zI (m : Int)) : F_All_fear_m55 (zI (if w then 1 else 0)) x3 sc = some (zI ((if w then fL A B n 3 else fK A B C n w m 3 : Nat) : Int), sc) := by
  unfold F_All_fear_m55
  rw [lp_go (fun i => (zI ((fL A B n i : Nat) : Int), zI ((fK A B C n w m i : Nat) : Int), zI (i : Int))) 3 (zI ((fL A B n 3 : Nat) : Int), zI ((fK A B C n w m 3 : Nat) : Int)) (by rfl) (by omega) (fun i hi => ?_) ?_]
  · unfold xo_u2
    dsimp only
    cases w with
    | true => rw [if_neg (show ¬ zI (if true = true then 1 else 0) = (0 : Int32) by decide), if_pos rfl]
    | false => rw [if_pos (show zI (if false = true then 1 else 0) = (0 : Int32) from rfl), if_neg (by decide)]
  · unfold F_All_fear_b64
    dsimp only
    rw [if_pos (show (2 : Int32) < zI ((3 : Nat) : Int) by decide)]
  · unfold F_All_fear_b64
    dsimp only
    have h2 : ¬ (2 : Int32) < zI (i : Int) := by
      rw [show (2 : Int32) = zI 2 from rfl, zI_lt (by decide) (zB_n (by omega))]; omega
    rw [if_neg h2, e_fearRow hc w hx3 hi, Option.bind_some]
    unfold xo_u2
    dsimp only
    rw [xo_nm_b, zI_suc]; rfl
