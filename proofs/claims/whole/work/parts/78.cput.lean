/-! a statement told, as the class does it -/
theorem e_hasDirD {st : XS} {n P : Nat} {A B C X Y : Nat → Int} {Kd : Nat → Nat} (h : dC st n A B C Kd P X Y) (hD : dD n A B C Kd P X Y) {p q : Int} (hp : ab 9 p) (hq : ab 9 q) : F_Tow_hasDirection (zI p) (zI q) st = some (zI (if an (fun s => decide (gz_t A B p q s = 0)) n = true then 1 else 0)) := by
  obtain ⟨d1, d2, d3, d4⟩ := h
  have h6 := hD.1
  unfold F_Tow_hasDirection
  rw [lp_find (fun s => decide (gz_t A B p q s = 0)) (.inl ()) (.inr ()) n (by omega) (fun k hk => ?_) ?_]
  · rw [Option.bind_some]
    split <;> rfl
  · unfold F_Tow_hasDirection_b2
    rw [d1, if_pos (zI_rfl _)]
  · unfold F_Tow_hasDirection_b2 F_Tow_turn_v1
    obtain ⟨g1, g2, g3, g4⟩ := d3 k hk
    rw [d1, if_neg (zI_ge1 (by omega) hk), xo_rd_z (show k < 6 by omega) (by decide), Option.bind_some, xo_rd_z (show k < 6 by omega) (by decide), Option.bind_some, g2, g3, zI_mul, zI_mul, zI_sub, Option.bind_some, xo_nm_b, zI_suc, zI_0]
    have e : p * B k - q * A k = gz_t A B p q k := rfl
    rw [e]
    exact cnt_if (by rw [zI_eq (ab_B (gt_ab hD.2.2.1 hp hq hk) (by decide)) (by decide), decide_eq_true_eq]) _ _
theorem abs_le20 {u : Int} (hu : ab 99 u) : (((if (0 : Int32) ≤ zI u then zI u else (0 : Int32) - zI u) ≤ (20 : Int32)) ↔ ab 20 u) ∧ (((20 : Int32) < (if (0 : Int32) ≤ zI u then zI u else (0 : Int32) - zI u)) ↔ ¬ ab 20 u) := by
  have hB := ab_B hu (by decide)
  have e1 : (if (0 : Int32) ≤ zI u then zI u else (0 : Int32) - zI u) = zI ((u.natAbs : Nat) : Int) := by
    rw [zI_0]
    by_cases h : 0 ≤ u
    · rw [if_pos ((zI_le (by decide) hB).mpr h), show ((u.natAbs : Nat) : Int) = u by omega]
    · rw [if_neg (fun z => h ((zI_le (by decide) hB).mp z)), zI_sub, show ((u.natAbs : Nat) : Int) = 0 - u by omega]
  rw [e1]
  unfold ab at *
  rw [show (20 : Int32) = zI 20 from rfl, zI_le (zB_n (by omega)) (by decide), zI_lt (by decide) (zB_n (by omega))]
  omega
theorem e_cpP {st : XS} {n P : Nat} {A B C X Y : Nat → Int} {Kd : Nat → Nat} {u v : Int} (h : dC st n A B C Kd P X Y) (hD : dD n A B C Kd P X Y) (hu : ab 99 u) (hv : ab 99 v) : (gdP u v P → ∃ t, F_Tow_putPlot (zI u) (zI v) st = some ((1 : Int32), t) ∧ cV st t ∧ dC t n A B C Kd (P + 1) (ex X P u) (ex Y P v)) ∧ (¬ gdP u v P → F_Tow_putPlot (zI u) (zI v) st = some ((0 : Int32), st)) := by
  obtain ⟨d1, d2, d3, d4⟩ := h
  have hP := hD.2.1
  have k8 : zI (P : Int) < (8 : Int32) ↔ (P : Int) < 8 := zi_lt (zB_n (by omega)) (by decide) _ _ rfl rfl
  unfold F_Tow_putPlot F_Tow_putPlot_m18 F_Tow_putPlot_m23 gdP
  by_cases c0 : ab 20 u
  · rw [if_neg (fun z => (abs_le20 hu).2.mp z c0)]
    by_cases c1 : ab 20 v
    · rw [if_pos ((abs_le20 hv).1.mpr c1), if_pos rfl, d2]
      simp only [k8]
      by_cases c2 : P < 8
      · refine ⟨fun _ => ?_, fun z => absurd ⟨c0, c1, c2⟩ z⟩
        rw [if_pos (show (P : Int) < 8 by omega), xo_ck_z c2 (by decide), Option.bind_some, xo_nm_b, zI_cl (by omega)]
        have e5 : ∀ f : Nat → Int32, (xs_A st 13 f).1 8 7 = zI (P : Int) := fun f => by rw [xs_A_n (by decide), d2]
        have e6 : ∀ f g : Nat → Int32, (xs_A (xs_A st 13 f) 14 g).1 8 7 = zI (P : Int) := fun f g => by rw [xs_A_n (by decide), e5]
        have e7 : ∀ f : Nat → Int32, (xs_A st 13 f).1 14 = st.1 14 := fun f => xs_A_n (by decide)
        rw [e5, xo_ck_z c2 (by decide), Option.bind_some, xo_nm_b, zI_cl (by omega), e6, zI_suc, xo_nm_b, e7]
        refine ⟨_, rfl, ⟨rfl, fun k hk => ?_⟩, ?_, ?_, fun s hs => ?_, fun p hp => ?_⟩
        · have k0 : ¬ k = 8 := by omega
          have k6 : ¬ k = 13 := by omega
          have k7 : ¬ k = 14 := by omega
          simp [xs_I, xs_A, k0, k6, k7]
        · simpa [xs_I, xs_A, upd] using d1
        · simp [xs_I, xs_A, upd]
        · simpa [xs_I, xs_A] using d3 s hs
        · by_cases e : p = P
          · subst e
            rw [ex_n, ex_n]
            simp [xs_I, xs_A, upd]
          · rw [ex_o u (by omega), ex_o v (by omega)]
            simpa [xs_I, xs_A, upd, e] using d4 p (by omega)
      · refine ⟨fun z => absurd z.2.2 c2, fun _ => ?_⟩
        rw [if_neg (show ¬ (P : Int) < 8 by omega)]
    · refine ⟨fun z => absurd z.2.1 c1, fun _ => ?_⟩
      rw [if_neg (fun z => c1 ((abs_le20 hv).1.mp z)), if_neg (show ¬ (1 : Int32) = 0 by decide)]
  · refine ⟨fun z => absurd z.1 c0, fun _ => ?_⟩
    rw [if_pos ((abs_le20 hu).2.mpr c0), if_neg (show ¬ (1 : Int32) = 0 by decide)]
theorem e_cpS {st : XS} {n P : Nat} {A B C X Y : Nat → Int} {Kd : Nat → Nat} {u v w : Int} {k : Nat} (h : dC st n A B C Kd P X Y) (hD : dD n A B C Kd P X Y) (hu : ab 9 u) (hv : ab 9 v) : (gdS u v n A B → ∃ t, F_Tow_putStreet (zI (k : Int)) (zI u) (zI v) (zI w) st = some ((1 : Int32), t) ∧ cV st t ∧ dC t (n + 1) (ex A n u) (ex B n v) (ex C n w) (exK Kd n k) P X Y) ∧ (¬ gdS u v n A B → F_Tow_putStreet (zI (k : Int)) (zI u) (zI v) (zI w) st = some ((0 : Int32), st)) := by
  have hdir := e_hasDirD h hD hu hv
  obtain ⟨d1, d2, d3, d4⟩ := h
  have hn6 := hD.1
  have ku : zI u = (0 : Int32) ↔ u = 0 := zi_eq (ab_B hu (by decide)) (by decide) _ _ rfl rfl
  have kv : zI v = (0 : Int32) ↔ v = 0 := zi_eq (ab_B hv (by decide)) (by decide) _ _ rfl rfl
  have k6 : zI (n : Int) < (6 : Int32) ↔ (n : Int) < 6 := zi_lt (zB_n (by omega)) (by decide) _ _ rfl rfl
  have main : ¬ (u = 0 ∧ v = 0) → (gdS u v n A B → ∃ t, F_Tow_putStreet_m13 (zI (k : Int)) (zI u) (zI v) (zI w) (0 : Int32) st = some ((1 : Int32), t) ∧ cV st t ∧ dC t (n + 1) (ex A n u) (ex B n v) (ex C n w) (exK Kd n k) P X Y) ∧ (¬ gdS u v n A B → F_Tow_putStreet_m13 (zI (k : Int)) (zI u) (zI v) (zI w) (0 : Int32) st = some ((0 : Int32), st)) := by
    intro huv
    unfold F_Tow_putStreet_m13
    rw [if_pos rfl, hdir, Option.bind_some]
    by_cases cd : an (fun s => decide (gz_t A B u v s = 0)) n = true
    · refine ⟨fun z => ?_, fun _ => ?_⟩
      · obtain ⟨s, hs, hz⟩ := an_iff.mp cd
        exact absurd (by simpa using hz) (z.2.1 s hs)
      · rw [if_pos cd, if_neg (show ¬ zI 1 = (0 : Int32) by decide)]
    · rw [if_neg cd, if_pos (show zI 0 = (0 : Int32) from rfl), d1]
      simp only [k6]
      by_cases c6 : n < 6
      · refine ⟨fun _ => ?_, fun z => absurd ⟨huv, an_dir cd, c6⟩ z⟩
        have a0 : ∀ f : Nat → Int32, (xs_A st 9 f).1 8 4 = zI (n : Int) := fun f => by rw [xs_A_n (by decide), d1]
        have b0 : ∀ f g : Nat → Int32, (xs_A (xs_A st 9 f) 10 g).1 8 4 = zI (n : Int) := fun f g => by rw [xs_A_n (by decide), a0]
        have c0 : ∀ f g e : Nat → Int32, (xs_A (xs_A (xs_A st 9 f) 10 g) 11 e).1 8 4 = zI (n : Int) := fun f g e => by rw [xs_A_n (by decide), b0]
        have e0 : ∀ f g e i : Nat → Int32, (xs_A (xs_A (xs_A (xs_A st 9 f) 10 g) 11 e) 12 i).1 8 4 = zI (n : Int) := fun f g e i => by rw [xs_A_n (by decide), c0]
        have a2 : ∀ f : Nat → Int32, (xs_A st 9 f).1 10 = st.1 10 := fun f => xs_A_n (by decide)
        have b3 : ∀ f g : Nat → Int32, (xs_A (xs_A st 9 f) 10 g).1 11 = st.1 11 := fun f g => by rw [xs_A_n (by decide), xs_A_n (by decide)]
        have c4 : ∀ f g e : Nat → Int32, (xs_A (xs_A (xs_A st 9 f) 10 g) 11 e).1 12 = st.1 12 := fun f g e => by rw [xs_A_n (by decide), xs_A_n (by decide), xs_A_n (by decide)]
        rw [if_pos (show (n : Int) < 6 by omega), xo_ck_z c6 (by decide), Option.bind_some, xo_nm_b, zI_cl (by omega), a0, xo_ck_z c6 (by decide), Option.bind_some, xo_nm_b, zI_cl (by omega), b0, xo_ck_z c6 (by decide), Option.bind_some, xo_nm_b, zI_cl (by omega), c0, xo_ck_z c6 (by decide), Option.bind_some, xo_nm_b, zI_cl (by omega), e0, zI_suc, xo_nm_b, a2, b3, c4]
        refine ⟨_, rfl, ⟨rfl, fun j hj => ?_⟩, ?_, ?_, fun s hs => ?_, fun p hp => ?_⟩
        · have j0 : ¬ j = 8 := by omega
          have j1 : ¬ j = 9 := by omega
          have j2 : ¬ j = 10 := by omega
          have j3 : ¬ j = 11 := by omega
          have j4 : ¬ j = 12 := by omega
          simp [xs_I, xs_A, j0, j1, j2, j3, j4]
        · simp [xs_I, xs_A, upd]
        · simpa [xs_I, xs_A, upd] using d2
        · by_cases e : s = n
          · subst e
            rw [ex_n, ex_n, ex_n]
            simp [xs_I, xs_A, upd, exK]
          · rw [ex_o u (by omega), ex_o v (by omega), ex_o w (by omega)]
            simpa [xs_I, xs_A, upd, e, exK] using d3 s (by omega)
        · simpa [xs_I, xs_A, upd] using d4 p hp
      · refine ⟨fun z => absurd z.2.2 c6, fun _ => ?_⟩
        rw [if_neg (show ¬ (n : Int) < 6 by omega)]
  unfold F_Tow_putStreet F_Tow_putStreet_m12
  simp only [ku, kv]
  by_cases cu : u = 0
  · rw [if_pos cu]
    by_cases cv : v = 0
    · refine ⟨fun z => absurd ⟨cu, cv⟩ z.1, fun _ => ?_⟩
      rw [if_pos cv]
      unfold F_Tow_putStreet_m13
      rw [if_neg (show ¬ (1 : Int32) = 0 by decide)]
    · rw [if_neg cv]
      exact main (fun z => cv z.2)
  · rw [if_neg cu]
    exact main (fun z => cu z.1)
/-- what a parsed statement says, and what it asks -/
def gdR (r : Int × Int × Int × Int) (n : Nat) (A B : Nat → Int) (P : Nat) : Prop := if r.1 < 0 then gdP r.2.1 r.2.2.1 P else gdS r.2.1 r.2.2.1 n A B
def rOK (r : Int × Int × Int × Int) : Prop := if r.1 < 0 then r.1 = -1 ∧ ab 99 r.2.1 ∧ ab 99 r.2.2.1 else r.1 < 6 ∧ ab 9 r.2.1 ∧ ab 9 r.2.2.1 ∧ ab 99 r.2.2.2
theorem ps_rOK {L : Nat → Nat} {l a b : Nat} {r : Int × Int × Int × Int} (h : ps L l a = (b, some r)) : rOK r ∧ a < b := by
  unfold ps at h
  by_cases c1 : pt L l 115 a = true
  · rw [if_pos c1] at h
    by_cases c2 : pk L l (a + 1) = true
    · rw [if_pos c2] at h
      have hk : 0 ≤ kx (L (a + 1)) := by
        unfold pk at c2
        rw [Bool.and_eq_true, decide_eq_true_eq, decide_eq_true_eq] at c2
        exact c2.2
      have hb := kx_b (L (a + 1))
      rcases hp : pn L l false (a + 2) with ⟨b1, _ | u⟩
      · rw [hp] at h; cases h
      · rw [hp] at h
        have h : (pb (pn L l false b1) fun c v => pb (pn L l true c) fun d w => (d, some (kx (L (a + 1)), u, v, w))) = (b, some r) := h
        rcases hp2 : pn L l false b1 with ⟨c, _ | v⟩
        · rw [hp2] at h; cases h
        · rw [hp2] at h
          have h : (pb (pn L l true c) fun d w => (d, some (kx (L (a + 1)), u, v, w))) = (b, some r) := h
          rcases hp3 : pn L l true c with ⟨d, _ | w⟩
          · rw [hp3] at h; cases h
          · rw [hp3] at h
            have h : (d, some (kx (L (a + 1)), u, v, w)) = (b, some r) := h
            obtain ⟨e1, e2⟩ := Prod.mk.inj h
            have e2 := Option.some.inj e2
            subst e2
            obtain ⟨q1, q2⟩ := pn_val hp
            obtain ⟨q3, q4⟩ := pn_val hp2
            obtain ⟨q5, q6⟩ := pn_val hp3
            refine ⟨?_, by omega⟩
            unfold rOK
            rw [if_neg (show ¬ kx (L (a + 1)) < 0 by omega)]
            exact ⟨hb.2, q1, q3, q5⟩
    · rw [if_neg c2] at h; cases h
  · rw [if_neg c1] at h
    by_cases c2 : pt L l 112 a = true
    · rw [if_pos c2] at h
      rcases hp : pn L l true (a + 1) with ⟨b1, _ | u⟩
      · rw [hp] at h; cases h
      · rw [hp] at h
        have h : (pb (pn L l true b1) fun c v => (c, some ((-1 : Int), u, v, (0 : Int)))) = (b, some r) := h
        rcases hp2 : pn L l true b1 with ⟨c, _ | v⟩
        · rw [hp2] at h; cases h
        · rw [hp2] at h
          have h : (c, some ((-1 : Int), u, v, (0 : Int))) = (b, some r) := h
          obtain ⟨e1, e2⟩ := Prod.mk.inj h
          have e2 := Option.some.inj e2
          subst e2
          obtain ⟨q1, q2⟩ := pn_val hp
          obtain ⟨q3, q4⟩ := pn_val hp2
          refine ⟨?_, by omega⟩
          unfold rOK
          rw [if_pos (show (-1 : Int) < 0 by decide)]
          exact ⟨rfl, q1, q3⟩
    · rw [if_neg c2] at h; cases h
