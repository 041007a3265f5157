/-! crossings, in least terms -/
theorem zI_div {a b : Int} (ha : ab 100000 a) (hb0 : 0 < b) (hb : b ≤ 100000) : zI a / zI b = zI (a.tdiv b) := by
  unfold ab at ha
  have hB : zB b := ⟨by omega, by omega⟩
  have hA : zB a := ⟨by omega, by omega⟩
  have hne : zI b ≠ (-1 : Int32) := by
    rw [show (-1 : Int32) = zI (-1) from rfl, Ne, zI_eq hB (by decide)]; omega
  have hle := Int.natAbs_tdiv_le_natAbs a b
  apply Int32.toInt_inj.mp
  rw [Int32.toInt_div_of_ne_right _ _ hne, zI_t hA, zI_t hB, zI_t ⟨by omega, by omega⟩]
theorem xo_dv_z {a b : Int} (ha : ab 100000 a) (hb0 : 0 < b) (hb : b ≤ 100000) : xo_dv (zI a) (zI b) = some (zI (a.tdiv b)) := by
  unfold xo_dv
  rw [if_neg (by rw [zI_0, zI_eq ⟨by omega, by omega⟩ (by decide)]; omega), zI_div ha hb0 hb]
theorem xo_rm_z {a b : Int} (ha : ab 100000 a) (hb0 : 0 < b) (hb : b ≤ 100000) : xo_rm (zI a) (zI b) = some (zI (a - a.tdiv b * b)) := by
  unfold xo_rm
  rw [if_neg (by rw [zI_0, zI_eq ⟨by omega, by omega⟩ (by decide)]; omega), zI_div ha hb0 hb, zI_mul, zI_sub]
theorem rm_0 {a b : Int} : a - a.tdiv b * b = 0 ↔ b ∣ a := by
  constructor
  · intro h
    exact ⟨a.tdiv b, by rw [Int.mul_comm]; omega⟩
  · intro h
    rw [Int.tdiv_mul_cancel h]; omega
theorem rm_B {a b : Int} (ha : ab 100000 a) (hb0 : 0 < b) : ab 200000 (a - a.tdiv b * b) := by
  have h1 := Int.natAbs_tdiv_le_natAbs a b
  have h2 : a.tdiv b * b = a.tdiv b * b := rfl
  have h3 : (a.tdiv b * b).natAbs ≤ a.natAbs := by
    rw [Int.natAbs_mul, Int.natAbs_tdiv]
    have := Nat.div_mul_le_self a.natAbs b.natAbs
    exact this
  unfold ab at *
  omega
theorem rm_c {a : Int} {f : Nat} (ha : ab 100000 a) (hf : 0 < f) : (zI (a - a.tdiv (f : Int) * (f : Int)) = (0 : Int32)) ↔ f ∣ a.natAbs := by
  rw [zI_0, zI_eq (ab_B (rm_B ha (by omega)) (by decide)) (by decide), rm_0, Int.ofNat_dvd_left]
theorem e_cancel {u part : Int} {w : Nat} (hu : ab 100000 u) (hp : ab 100000 part) (hw : 0 < w) (hw9 : w ≤ 100000) : F_All_cancelled (zI part) (zI u) (zI (w : Int)) = some (zI (part.tdiv (Nat.gcd u.natAbs w : Int))) := by
  have hgw : Nat.gcd u.natAbs w ≤ w := Nat.le_of_dvd hw (Nat.gcd_dvd_right _ _)
  have hg0 : 0 < Nat.gcd u.natAbs w := Nat.gcd_pos_of_pos_right _ hw
  have hwa : ab 100000 (w : Int) := by unfold ab; omega
  unfold F_All_cancelled
  have hl : ∃ r, xo_lp (fun q : Int32 => F_All_cancelled_b2 (zI part) (zI u) (zI (w : Int)) q) 1000000 (zI (w : Int)) = some r ∧ Sum.elim (fun o5 => (xo_dv (zI part) o5).bind fun v6 => some v6) (fun _ => some (zI part)) r = some (zI (part.tdiv (Nat.gcd u.natAbs w : Int))) := by
    refine lp_ex (fun (i : Nat) (x : Int32) => x = zI ((w - i : Nat) : Int) ∧ ∀ f, w - i < f → f ≤ w → ¬ (f ∣ u.natAbs ∧ f ∣ w)) _ (w - 1) 1000000 _ (by omega) ⟨rfl, fun f h1 h2 => by omega⟩ ?_ ?_
    · rintro i x hi ⟨rfl, h2⟩
      unfold F_All_cancelled_b2
      have hn1 : ¬ zI ((w - i : Nat) : Int) ≤ (1 : Int32) := by
        rw [zI_1, zI_le (zB_n (by omega)) (by decide)]; omega
      have e1 : zI ((w - i : Nat) : Int) + (-1 : Int32) = zI ((w - (i + 1) : Nat) : Int) := by
        rw [show (-1 : Int32) = zI (-1) from rfl, zI_add, show ((w - i : Nat) : Int) + -1 = ((w - (i + 1) : Nat) : Int) by omega]
      have c1 := rm_c (f := w - i) hu (by omega)
      have c2 := rm_c (f := w - i) hwa (by omega)
      have e2 : (w : Int).natAbs = w := rfl
      rw [e2] at c2
      rw [if_neg hn1, xo_rm_z hu (by omega) (by omega), Option.bind_some, xo_rm_z hwa (by omega) (by omega), Option.bind_some]
      simp only [xo_nm_b, e1]
      have hno : ¬ (w - i ∣ u.natAbs ∧ w - i ∣ w) → ∀ f, w - (i + 1) < f → f ≤ w → ¬ (f ∣ u.natAbs ∧ f ∣ w) := fun h f h3 h4 => by
        by_cases e : f = w - i
        · subst e; exact h
        · exact h2 f (by omega) h4
      by_cases d1 : w - i ∣ u.natAbs
      · rw [if_pos (c1.mpr d1)]
        by_cases d2 : w - i ∣ w
        · rw [if_pos (c2.mpr d2)]
          refine Or.inr ⟨_, rfl, ?_⟩
          have hdg : w - i ∣ Nat.gcd u.natAbs w := Nat.dvd_gcd d1 d2
          have hle := Nat.le_of_dvd hg0 hdg
          have heq : w - i = Nat.gcd u.natAbs w := by
            rcases Nat.lt_or_ge (w - i) (Nat.gcd u.natAbs w) with q | q
            · exact absurd ⟨Nat.gcd_dvd_left _ _, Nat.gcd_dvd_right _ _⟩ (h2 _ q hgw)
            · omega
          show (xo_dv (zI part) (zI ((w - i : Nat) : Int))).bind _ = _
          rw [xo_dv_z hp (by omega) (by omega), heq]; rfl
        · rw [if_neg (fun z => d2 (c2.mp z))]
          exact Or.inl ⟨_, rfl, rfl, hno (fun z => d2 z.2)⟩
      · rw [if_neg (fun z => d1 (c1.mp z))]
        exact Or.inl ⟨_, rfl, rfl, hno (fun z => d1 z.1)⟩
    · rintro x ⟨rfl, h2⟩
      unfold F_All_cancelled_b2
      have hw1 : w - (w - 1) = 1 := by omega
      rw [hw1, if_pos (show zI ((1 : Nat) : Int) ≤ (1 : Int32) from zI_rfl 1)]
      refine ⟨_, rfl, ?_⟩
      have hg1 : Nat.gcd u.natAbs w = 1 := by
        rcases Nat.lt_or_ge 1 (Nat.gcd u.natAbs w) with q | q
        · exact absurd ⟨Nat.gcd_dvd_left _ _, Nat.gcd_dvd_right _ _⟩ (h2 _ (by omega) hgw)
        · omega
      rw [hg1]
      have : part.tdiv ((1 : Nat) : Int) = part := Int.tdiv_one part
      rw [this]; rfl
  obtain ⟨r, h1, h2⟩ := hl
  rw [h1, Option.bind_some, h2]
theorem e_gcd (x3 x4 x5 : Int32) (st : XS) : ∀ (q p fuel : Nat), p ≤ 100000 → q ≤ 100000 → q < fuel → xo_lp (fun z : (Int32 × Int32) => F_Mod_crossing_b162 x3 x4 x5 st z.1 z.2) fuel (zI (p : Int), zI (q : Int)) = some (zI (Nat.gcd p q : Int)) := by
  intro q
  induction q using Nat.strongRecOn with
  | ind q ih =>
    intro p fuel hp hq hf
    obtain ⟨m, rfl⟩ : ∃ m, fuel = m + 1 := ⟨fuel - 1, by omega⟩
    rw [xo_lp]
    unfold F_Mod_crossing_b162
    dsimp only
    by_cases h0 : q = 0
    · subst h0
      rw [if_pos (show zI ((0 : Nat) : Int) = (0 : Int32) from rfl), Nat.gcd_zero_right]; rfl
    · have hpa : ab 100000 (p : Int) := by unfold ab; omega
      have hmod : (p : Int) - (p : Int).tdiv (q : Int) * (q : Int) = ((p % q : Nat) : Int) := by
        have h1 : (p : Int).tdiv (q : Int) = ((p / q : Nat) : Int) := rfl
        have h2 := Nat.div_add_mod' p q
        rw [h1, ← Int.natCast_mul]
        omega
      rw [if_neg (by rw [zI_0, zI_eq (zB_n (by omega)) (by decide)]; omega), xo_rm_z hpa (by omega) (by omega), hmod]
      have hlt : p % q < q := Nat.mod_lt _ (by omega)
      have hi := ih (p % q) hlt q m hq (by omega) (by omega)
      rw [Option.bind_some, Option.bind_some]
      refine Eq.trans hi ?_
      rw [Nat.gcd_comm p q, Nat.gcd_rec q p, Nat.gcd_comm]
theorem e_cr151 {k : Nat} (hk : k < 4) {u : Int} {w : Nat} (hu : ab 100000 u) (hw : 0 < w) (hw9 : w ≤ 100000) (st : XS) : F_Mod_crossing_m151 (zI (k : Int)) (zI (w : Int)) (zI u) st = some (zI (if k % 2 = 0 then u.tdiv (Nat.gcd u.natAbs w : Int) else (w : Int).tdiv (Nat.gcd u.natAbs w : Int)), st) := by
  have hgw : Nat.gcd u.natAbs w ≤ w := Nat.le_of_dvd hw (Nat.gcd_dvd_right _ _)
  have hg0 : 0 < Nat.gcd u.natAbs w := Nat.gcd_pos_of_pos_right _ hw
  have hub : zB u := ab_B hu (by decide)
  have hua : u.natAbs ≤ 100000 := hu
  have hwa : ab 100000 (w : Int) := by unfold ab; omega
  have e1 : (if (0 : Int32) ≤ zI u then zI u else (0 : Int32) - zI u) = zI ((u.natAbs : Nat) : Int) := by
    rw [zI_0]
    by_cases h : 0 ≤ u
    · rw [if_pos ((zI_le (by decide) hub).mpr h), show ((u.natAbs : Nat) : Int) = u by omega]
    · rw [if_neg (fun z => h ((zI_le (by decide) hub).mp z)), zI_sub, show ((u.natAbs : Nat) : Int) = 0 - u by omega]
  unfold F_Mod_crossing_m151
  rw [xo_nm_b, e1, e_gcd _ _ _ _ w u.natAbs 1000000 hua (by omega) (by omega), Option.bind_some]
  have e2 : xo_rm (zI (k : Int)) (2 : Int32) = some (zI ((k % 2 : Nat) : Int)) := by
    rcases (show k = 0 ∨ k = 1 ∨ k = 2 ∨ k = 3 by omega) with rfl | rfl | rfl | rfl <;> decide +kernel
  rw [e2, Option.bind_some, xo_dv_z hu (by omega) (by omega), xo_dv_z hwa (by omega) (by omega), Option.bind_some, Option.bind_some]
  by_cases h : k % 2 = 0
  · rw [if_pos (show zI ((k % 2 : Nat) : Int) = (0 : Int32) by rw [h]; rfl), if_pos h]
  · rw [if_neg (by rw [zI_0, zI_eq (zB_n (by omega)) (by decide)]; omega), if_neg h]
theorem e_cr134 {k : Nat} (hk : k < 4) {d v : Int} (hd0 : d ≠ 0) (hd : ab 162 d) (hv : ab 1782 v) (st : XS) : F_Mod_crossing_m134 (zI (k : Int)) (zI d) (zI v) st = some (zI (if k % 2 = 0 then (gz_sg d * v).tdiv (Nat.gcd (gz_sg d * v).natAbs (gz_sg d * d).natAbs : Int) else (gz_sg d * d).tdiv (Nat.gcd (gz_sg d * v).natAbs (gz_sg d * d).natAbs : Int)), st) := by
  have hdp := gz_sg_pos hd0
  obtain ⟨w, hw⟩ : ∃ w : Nat, gz_sg d * d = (w : Int) := ⟨(gz_sg d * d).toNat, by omega⟩
  have hw2 : ab 162 (w : Int) := by rw [← hw]; exact ab_sg d hd
  have hw3 : w ≤ 162 := by unfold ab at hw2; omega
  have hu : ab 100000 (gz_sg d * v) := by
    have := ab_sg d hv
    unfold ab at *; omega
  have h1 := e_cr151 hk hu (w := w) (by omega) (by omega) st
  have e2 : (w : Int).natAbs = w := rfl
  rw [hw, e2]
  rw [← h1, ← hw]
  unfold F_Mod_crossing_m134 gz_sg
  by_cases h : d < 0
  · rw [if_pos h, if_neg (by rw [zI_0, zI_le (by decide) (ab_B hd (by decide))]; omega), xo_nm_b, xo_nm_b, zI_neg, zI_neg, show -1 * v = -v by omega, show -1 * d = -d by omega]
  · rw [if_neg h, if_pos (by rw [zI_0, zI_le (by decide) (ab_B hd (by decide))]; omega), Int.one_mul, Int.one_mul]
