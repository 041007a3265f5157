/-! statements told: a street or a plot more, on either side -/
def dD (n : Nat) (A B C : Nat → Int) (Kd : Nat → Nat) (P : Nat) (X Y : Nat → Int) : Prop := n ≤ 6 ∧ P ≤ 8 ∧ gB A B C n ∧ gz_ok A B n ∧ (∀ s, s < n → Kd s < 6) ∧ ∀ p, p < P → ab 20 (X p) ∧ ab 20 (Y p)
def dM (st : XS) (n : Nat) (A B C : Nat → Int) (Kd : Nat → Nat) (P : Nat) (X Y : Nat → Int) : Prop := st.1 0 0 = zI (n : Int) ∧ st.1 0 5 = zI (P : Int) ∧ (∀ s, s < n → st.1 1 s = zI (Kd s : Int) ∧ st.1 2 s = zI (A s) ∧ st.1 3 s = zI (B s) ∧ st.1 4 s = zI (C s)) ∧ ∀ p, p < P → st.1 6 p = zI (X p) ∧ st.1 7 p = zI (Y p)
def dC (st : XS) (n : Nat) (A B C : Nat → Int) (Kd : Nat → Nat) (P : Nat) (X Y : Nat → Int) : Prop := st.1 8 4 = zI (n : Int) ∧ st.1 8 7 = zI (P : Int) ∧ (∀ s, s < n → st.1 9 s = zI (Kd s : Int) ∧ st.1 10 s = zI (A s) ∧ st.1 11 s = zI (B s) ∧ st.1 12 s = zI (C s)) ∧ ∀ p, p < P → st.1 13 p = zI (X p) ∧ st.1 14 p = zI (Y p)
def exK (Kd : Nat → Nat) (n k s : Nat) : Nat := if s = n then k else Kd s
def mV (st t : XS) : Prop := t.2 = st.2 ∧ (∀ k, k = 5 ∨ 8 ≤ k → t.1 k = st.1 k) ∧ ∀ j, j ≠ 0 → j ≠ 5 → t.1 0 j = st.1 0 j
def cV (st t : XS) : Prop := t.2 = st.2 ∧ ∀ k, k < 8 ∨ 14 < k → t.1 k = st.1 k
def gdP (u v : Int) (P : Nat) : Prop := ab 20 u ∧ ab 20 v ∧ P < 8
def gdS (u v : Int) (n : Nat) (A B : Nat → Int) : Prop := ¬ (u = 0 ∧ v = 0) ∧ (∀ t, t < n → gz_t A B u v t ≠ 0) ∧ n < 6
theorem dD_P {n P : Nat} {A B C X Y : Nat → Int} {Kd : Nat → Nat} {u v : Int} (h : dD n A B C Kd P X Y) (g : gdP u v P) : dD n A B C Kd (P + 1) (ex X P u) (ex Y P v) := by
  obtain ⟨h1, h2, h3, h4, h5, h6⟩ := h
  obtain ⟨g1, g2, g3⟩ := g
  refine ⟨h1, by omega, h3, h4, h5, fun p hp => ?_⟩
  by_cases e : p = P
  · subst e; rw [ex_n, ex_n]; exact ⟨g1, g2⟩
  · rw [ex_o u (by omega), ex_o v (by omega)]; exact h6 p (by omega)
theorem dD_S {n P : Nat} {A B C X Y : Nat → Int} {Kd : Nat → Nat} {u v w : Int} {k : Nat} (h : dD n A B C Kd P X Y) (g : gdS u v n A B) (hu : ab 9 u) (hv : ab 9 v) (hw : ab 99 w) (hk : k < 6) : dD (n + 1) (ex A n u) (ex B n v) (ex C n w) (exK Kd n k) P X Y := by
  obtain ⟨h1, h2, h3, h4, h5, h6⟩ := h
  obtain ⟨g1, g2, g3⟩ := g
  refine ⟨by omega, h2, ex_gB h3 hu hv hw, ex_ok h4 (by omega) g2, fun s hs => ?_, h6⟩
  unfold exK
  split
  · exact hk
  · exact h5 s (by omega)
theorem e_mpP {st : XS} {n P : Nat} {A B C X Y : Nat → Int} {Kd : Nat → Nat} {u v : Int} (h : dM st n A B C Kd P X Y) (hD : dD n A B C Kd P X Y) (hu : ab 99 u) (hv : ab 99 v) (h0 : st.1 11 0 = zI u) (h1 : st.1 11 1 = zI v) : (gdP u v P → ∃ t, mpP (1 : Int32) st = some ((1 : Int32), t) ∧ mV st t ∧ dM t n A B C Kd (P + 1) (ex X P u) (ex Y P v)) ∧ (¬ gdP u v P → mpP (1 : Int32) st = some ((0 : Int32), st)) := by
  obtain ⟨d1, d2, d3, d4⟩ := h
  have hP := hD.2.1
  have r0 : ∀ f : Nat → Int32, xo_rd f 3 (0 : Int32) = some (f 0) := fun f => xo_rd_z (k := 0) (by decide) (by decide)
  have r1 : ∀ f : Nat → Int32, xo_rd f 3 (1 : Int32) = some (f 1) := fun f => xo_rd_z (k := 1) (by decide) (by decide)
  have e20 : (-20 : Int32) = zI (-20) := rfl
  have f20 : (20 : Int32) = zI 20 := rfl
  have w0 : F_Mod_within (zI u) (-20 : Int32) (20 : Int32) = some (zI (if -20 ≤ u ∧ u ≤ 20 then 1 else 0)) := by
    rw [e20, f20]
    exact e_mwithin (ab_B hu (by decide)) (by decide) (by decide)
  have w1 : F_Mod_within (zI v) (-20 : Int32) (20 : Int32) = some (zI (if -20 ≤ v ∧ v ≤ 20 then 1 else 0)) := by
    rw [e20, f20]
    exact e_mwithin (ab_B hv (by decide)) (by decide) (by decide)
  have k8 : zI (P : Int) = (8 : Int32) ↔ (P : Int) = 8 := zi_eq (zB_n (by omega)) (by decide) _ _ rfl rfl
  unfold mpP gdP ab
  rw [if_neg (show ¬ (1 : Int32) = 0 by decide), r0, Option.bind_some, h0, w0, Option.bind_some]
  by_cases c0 : -20 ≤ u ∧ u ≤ 20
  · rw [if_pos c0, if_neg (show ¬ zI 1 = (0 : Int32) by decide), r1, Option.bind_some, h1, w1, Option.bind_some]
    by_cases c1 : -20 ≤ v ∧ v ≤ 20
    · rw [if_pos c1, if_neg (show ¬ zI 1 = (0 : Int32) by decide), d2]
      by_cases c2 : P < 8
      · refine ⟨fun _ => ?_, fun z => absurd ⟨by omega, by omega, c2⟩ z⟩
        rw [if_neg (fun z => by have := k8.mp z; omega), Option.bind_some, xo_ck_z c2 (by decide), Option.bind_some, xo_nm_b, zI_cl (by omega)]
        have e5 : (xs_A st 6 (upd (st.1 6) P (zI u))).1 0 5 = zI (P : Int) := by rw [xs_A_n (by decide), d2]
        rw [e5, zI_suc, xo_nm_b, r1, Option.bind_some]
        have e6 : (xs_I (xs_A st 6 (upd (st.1 6) P (zI u))) 0 5 (zI ((P + 1 : Nat) : Int))).1 11 1 = zI v := by simp [xs_I, xs_A, h1]
        have e7 : (xs_I (xs_A st 6 (upd (st.1 6) P (zI u))) 0 5 (zI ((P + 1 : Nat) : Int))).1 7 = st.1 7 := by simp [xs_I, xs_A]
        rw [e6, xo_ck_z c2 (by decide), Option.bind_some, xo_nm_b, zI_cl (by omega), e7]
        refine ⟨_, rfl, ⟨rfl, fun k hk => ?_, fun j hj hj2 => ?_⟩, ?_, ?_, fun s hs => ?_, fun p hp => ?_⟩
        · have k0 : ¬ k = 0 := by omega
          have k6 : ¬ k = 6 := by omega
          have k7 : ¬ k = 7 := by omega
          simp [xs_I, xs_A, k0, k6, k7]
        · simp [xs_I, xs_A, upd, hj2]
        · simpa [xs_I, xs_A, upd] using d1
        · simp [xs_I, xs_A, upd]
        · simpa [xs_I, xs_A] using d3 s hs
        · by_cases e : p = P
          · subst e
            rw [ex_n, ex_n]
            simp [xs_I, xs_A, upd]
          · rw [ex_o u (by omega), ex_o v (by omega)]
            simpa [xs_I, xs_A, upd, e] using d4 p (by omega)
      · refine ⟨fun z => absurd z.2.2 c2, fun _ => ?_⟩
        rw [if_pos (k8.mpr (by omega))]
    · refine ⟨fun z => absurd z.2.1 (by omega), fun _ => ?_⟩
      rw [if_neg c1, if_pos (show zI 0 = (0 : Int32) from rfl)]
  · refine ⟨fun z => absurd z.1 (by omega), fun _ => ?_⟩
    rw [if_neg c0, if_pos (show zI 0 = (0 : Int32) from rfl)]
theorem mL_d {st : XS} {n P : Nat} {A B C X Y : Nat → Int} {Kd : Nat → Nat} (h : dM st n A B C Kd P X Y) (hD : dD n A B C Kd P X Y) : mL st n A B C := ⟨by have := hD.1; omega, fun s hs => (h.2.2.1 s hs).2, hD.2.2.1⟩
theorem e_mpS {st : XS} {n P : Nat} {A B C X Y : Nat → Int} {Kd : Nat → Nat} {u v w : Int} {k : Nat} (h : dM st n A B C Kd P X Y) (hD : dD n A B C Kd P X Y) (hu : ab 9 u) (hv : ab 9 v) (h0 : st.1 11 0 = zI u) (h1 : st.1 11 1 = zI v) (h2 : st.1 11 2 = zI w) : (gdS u v n A B → ∃ t, mpS (1 : Int32) (zI (k : Int)) st = some ((1 : Int32), t) ∧ mV st t ∧ dM t (n + 1) (ex A n u) (ex B n v) (ex C n w) (exK Kd n k) P X Y) ∧ (¬ gdS u v n A B → mpS (1 : Int32) (zI (k : Int)) st = some ((0 : Int32), st)) := by
  have hmL := mL_d h hD
  obtain ⟨d1, d2, d3, d4⟩ := h
  have hn6 := hD.1
  have r0 : ∀ f : Nat → Int32, xo_rd f 3 (0 : Int32) = some (f 0) := fun f => xo_rd_z (k := 0) (by decide) (by decide)
  have r1 : ∀ f : Nat → Int32, xo_rd f 3 (1 : Int32) = some (f 1) := fun f => xo_rd_z (k := 1) (by decide) (by decide)
  have r2 : ∀ f : Nat → Int32, xo_rd f 3 (2 : Int32) = some (f 2) := fun f => xo_rd_z (k := 2) (by decide) (by decide)
  have ku : zI u = (0 : Int32) ↔ u = 0 := zi_eq (ab_B hu (by decide)) (by decide) _ _ rfl rfl
  have kv : zI v = (0 : Int32) ↔ v = 0 := zi_eq (ab_B hv (by decide)) (by decide) _ _ rfl rfl
  have k6 : zI (n : Int) = (6 : Int32) ↔ (n : Int) = 6 := zi_eq (zB_n (by omega)) (by decide) _ _ rfl rfl
  have main : ¬ (u = 0 ∧ v = 0) → (gdS u v n A B → ∃ t, F_Mod_statement_m239 (zI (k : Int)) st = some ((1 : Int32), t) ∧ mV st t ∧ dM t (n + 1) (ex A n u) (ex B n v) (ex C n w) (exK Kd n k) P X Y) ∧ (¬ gdS u v n A B → F_Mod_statement_m239 (zI (k : Int)) st = some ((0 : Int32), st)) := by
    intro huv
    unfold F_Mod_statement_m239
    rw [r0, Option.bind_some, r1, Option.bind_some, h0, h1, d1, e_misDir hmL hu hv, Option.bind_some]
    by_cases cd : an (fun s => decide (gz_t A B u v s = 0)) n = true
    · refine ⟨fun z => ?_, fun _ => ?_⟩
      · obtain ⟨s, hs, hz⟩ := an_iff.mp cd
        exact absurd (by simpa using hz) (z.2.1 s hs)
      · rw [if_pos cd, if_neg (show ¬ zI 1 = (0 : Int32) by decide)]
    · rw [if_neg cd, if_pos (show zI 0 = (0 : Int32) from rfl)]
      by_cases c6 : n < 6
      · refine ⟨fun _ => ?_, fun z => absurd ⟨huv, an_dir cd, c6⟩ z⟩
        rw [if_neg (fun z => by have := k6.mp z; omega), xo_ck_z (show n < 7 by omega) (by decide), Option.bind_some, xo_nm_b, zI_cl (by omega)]
        have a0 : ∀ f : Nat → Int32, (xs_A st 1 f).1 0 0 = zI (n : Int) := fun f => by rw [xs_A_n (by decide), d1]
        have a11 : ∀ f : Nat → Int32, (xs_A st 1 f).1 11 0 = zI u := fun f => by rw [xs_A_n (by decide), h0]
        have a2 : ∀ f : Nat → Int32, (xs_A st 1 f).1 2 = st.1 2 := fun f => xs_A_n (by decide)
        rw [r0, Option.bind_some, a11, a0, xo_ck_z (show n < 7 by omega) (by decide), Option.bind_some, xo_nm_b, zI_cl (by omega), a2]
        have b0 : ∀ f g : Nat → Int32, (xs_A (xs_A st 1 f) 2 g).1 0 0 = zI (n : Int) := fun f g => by rw [xs_A_n (by decide), a0]
        have b11 : ∀ f g : Nat → Int32, (xs_A (xs_A st 1 f) 2 g).1 11 1 = zI v := fun f g => by rw [xs_A_n (by decide), xs_A_n (by decide), h1]
        have b3 : ∀ f g : Nat → Int32, (xs_A (xs_A st 1 f) 2 g).1 3 = st.1 3 := fun f g => by rw [xs_A_n (by decide), xs_A_n (by decide)]
        rw [r1, Option.bind_some, b11, b0, xo_ck_z (show n < 7 by omega) (by decide), Option.bind_some, xo_nm_b, zI_cl (by omega), b3]
        have c0 : ∀ f g e : Nat → Int32, (xs_A (xs_A (xs_A st 1 f) 2 g) 3 e).1 0 0 = zI (n : Int) := fun f g e => by rw [xs_A_n (by decide), b0]
        rw [c0, zI_suc, xo_nm_b]
        have e11 : ∀ f g e : Nat → Int32, (xs_I (xs_A (xs_A (xs_A st 1 f) 2 g) 3 e) 0 0 (zI ((n + 1 : Nat) : Int))).1 11 2 = zI w := fun f g e => by simp [xs_I, xs_A, h2]
        have e4 : ∀ f g e : Nat → Int32, (xs_I (xs_A (xs_A (xs_A st 1 f) 2 g) 3 e) 0 0 (zI ((n + 1 : Nat) : Int))).1 4 = st.1 4 := fun f g e => by simp [xs_I, xs_A]
        rw [r2, Option.bind_some, e11, xo_ck_z (show n < 7 by omega) (by decide), Option.bind_some, xo_nm_b, zI_cl (by omega), e4]
        refine ⟨_, rfl, ⟨rfl, fun j hj => ?_, fun j hj hj2 => ?_⟩, ?_, ?_, fun s hs => ?_, fun p hp => ?_⟩
        · have j0 : ¬ j = 0 := by omega
          have j1 : ¬ j = 1 := by omega
          have j2 : ¬ j = 2 := by omega
          have j3 : ¬ j = 3 := by omega
          have j4 : ¬ j = 4 := by omega
          simp [xs_I, xs_A, j0, j1, j2, j3, j4]
        · simp [xs_I, xs_A, upd, hj]
        · simp [xs_I, xs_A, upd]
        · simpa [xs_I, xs_A, upd] using d2
        · by_cases e : s = n
          · subst e
            rw [ex_n, ex_n, ex_n]
            simp [xs_I, xs_A, upd, exK]
          · rw [ex_o u (by omega), ex_o v (by omega), ex_o w (by omega)]
            simpa [xs_I, xs_A, upd, e, exK] using d3 s (by omega)
        · simpa [xs_I, xs_A, upd] using d4 p hp
      · refine ⟨fun z => absurd z.2.2 c6, fun _ => ?_⟩
        rw [if_pos (k6.mpr (by omega))]
  unfold mpS
  rw [if_neg (show ¬ (1 : Int32) = 0 by decide), r0, Option.bind_some, h0]
  simp only [ku]
  by_cases cu : u = 0
  · rw [if_pos cu, r1, Option.bind_some, h1]
    simp only [kv]
    by_cases cv : v = 0
    · refine ⟨fun z => absurd ⟨cu, cv⟩ z.1, fun _ => ?_⟩
      rw [if_pos cv]
    · rw [if_neg cv]
      exact main (fun z => cv z.2)
  · rw [if_neg cu]
    exact main (fun z => cu z.1)
