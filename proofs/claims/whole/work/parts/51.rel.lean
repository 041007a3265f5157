/-! THE RELATION OF STATES -/
def xR (sc sm : XS) (n : Nat) (A B C : Nat → Int) (Kd : Nat → Nat) (P : Nat) (X Y : Nat → Int) : Prop :=
  cL sc n A B C ∧ gz_ok A B n ∧ gPl A B C n sc ∧ (∀ s, s < n → sc.1 2 s = zI (Kd s : Int) ∧ sm.1 1 s = zI (Kd s : Int) ∧ Kd s < 6) ∧ pL sc P X Y ∧ sm.1 0 0 = zI (n : Int) ∧ mL sm n A B C ∧ pM sm P X Y
def xT (sc sm : XS) : Prop := ∃ n : Nat, n ≤ 96 ∧ sc.1 28 1 = zI (n : Int) ∧ sm.1 0 8 = zI (n : Int) ∧ ∀ i, i < n → ∃ c : Nat, c < 256 ∧ sc.1 29 i = zI (c : Int) ∧ sm.1 9 i = zI (c : Int)
def xW (sc sm : XS) : Prop := ∃ n : Nat, n ≤ 12 ∧ sc.1 0 7 = zI (n : Int) ∧ sm.1 0 12 = zI (n : Int) ∧ ∀ i, i < n → ∃ c : Nat, c < 64 ∧ sc.1 31 i = zI (c : Int) ∧ sm.1 13 i = zI (c : Int)
def xF (sc sm : XS) : Prop := ∀ i, i < 7 → sc.1 32 i = sm.1 14 i
/-- the image: a town -/
def xJ (sc sm : XS) (n : Nat) (A B C : Nat → Int) (Kd : Nat → Nat) (P : Nat) (X Y : Nat → Int) : Prop :=
  (n ≤ 6 ∧ P ≤ 8 ∧ gB A B C n ∧ gz_ok A B n) ∧ (sc.1 15 4 = zI (n : Int) ∧ sc.1 15 7 = zI (P : Int) ∧ sm.1 16 40 = zI (n : Int) ∧ sm.1 16 41 = zI (P : Int)) ∧ (∀ s, s < n → (sc.1 16 s = zI (Kd s : Int) ∧ sc.1 17 s = zI (A s) ∧ sc.1 18 s = zI (B s) ∧ sc.1 19 s = zI (C s)) ∧ (sm.1 16 s = zI (Kd s : Int) ∧ sm.1 16 (6 + s) = zI (A s) ∧ sm.1 16 (12 + s) = zI (B s) ∧ sm.1 16 (18 + s) = zI (C s)) ∧ Kd s < 6) ∧ (∀ p, p < P → sc.1 20 p = zI (X p) ∧ sc.1 21 p = zI (Y p) ∧ sm.1 16 (24 + p) = zI (X p) ∧ sm.1 16 (32 + p) = zI (Y p) ∧ ab 20 (X p) ∧ ab 20 (Y p))
def xI (sc sm : XS) : Prop := (sc.1 0 3 = 0 ∧ sm.1 0 15 = 0) ∨ (sc.1 0 3 = 1 ∧ sm.1 0 15 = 1 ∧ ∃ n A B C Kd P X Y, xJ sc sm n A B C Kd P X Y)
def xz_RR (sc sm : XS) : Prop := (∃ n A B C Kd P X Y, xR sc sm n A B C Kd P X Y) ∧ xT sc sm ∧ xW sc sm ∧ xF sc sm ∧ xI sc sm
theorem gPl_of {st t : XS} {n : Nat} {A B C : Nat → Int} (h : gPl A B C n st) (e : ∀ k, 22 ≤ k → k ≤ 27 → t.1 k = st.1 k) (e2 : t.2 = st.2) : gPl A B C n t := by
  unfold gPl gP at *
  rw [e 22 (by omega) (by omega), e 23 (by omega) (by omega), e 24 (by omega) (by omega), e 25 (by omega) (by omega), e 26 (by omega) (by omega), e 27 (by omega) (by omega), e2]
  exact h
theorem xR_of {sc sm tc tm : XS} {n : Nat} {A B C : Nat → Int} {Kd : Nat → Nat} {P : Nat} {X Y : Nat → Int} (h : xR sc sm n A B C Kd P X Y) (e1 : ∀ k, 1 ≤ k → k ≤ 7 → tc.1 k = sc.1 k) (e2 : ∀ k, 22 ≤ k → k ≤ 27 → tc.1 k = sc.1 k) (e3 : tc.2 = sc.2) (f0 : tm.1 0 0 = sm.1 0 0) (f5 : tm.1 0 5 = sm.1 0 5) (f1 : ∀ k, k = 1 ∨ k = 6 ∨ k = 7 → tm.1 k = sm.1 k) (f2 : ∀ s, s < n → tm.1 2 s = sm.1 2 s ∧ tm.1 3 s = sm.1 3 s ∧ tm.1 4 s = sm.1 4 s) : xR tc tm n A B C Kd P X Y := by
  obtain ⟨h1, h2, h3, h4, h5, h6, h7, h8⟩ := h
  refine ⟨?_, h2, gPl_of h3 e2 e3, ?_, ?_, f0.trans h6, ⟨h7.1, fun s hs => ?_, h7.2.2⟩, ?_⟩
  · unfold cL at *
    rw [e1 1 (by omega) (by omega), e1 3 (by omega) (by omega), e1 4 (by omega) (by omega), e1 5 (by omega) (by omega)]; exact h1
  · rw [e1 2 (by omega) (by omega), f1 1 (by omega)]; exact h4
  · unfold pL at *
    rw [e1 1 (by omega) (by omega), e1 6 (by omega) (by omega), e1 7 (by omega) (by omega)]; exact h5
  · obtain ⟨g1, g2, g3⟩ := f2 s hs
    rw [g1, g2, g3]; exact h7.2.1 s hs
  · unfold pM at *
    rw [f5, f1 6 (by omega), f1 7 (by omega)]; exact h8
theorem xT_of {sc sm tc tm : XS} (h : xT sc sm) (e1 : tc.1 28 1 = sc.1 28 1) (e2 : tc.1 29 = sc.1 29) (f1 : tm.1 0 8 = sm.1 0 8) (f2 : tm.1 9 = sm.1 9) : xT tc tm := by
  unfold xT at *
  rw [e1, e2, f1, f2]; exact h
theorem xW_of {sc sm tc tm : XS} (h : xW sc sm) (e1 : tc.1 0 7 = sc.1 0 7) (e2 : tc.1 31 = sc.1 31) (f1 : tm.1 0 12 = sm.1 0 12) (f2 : tm.1 13 = sm.1 13) : xW tc tm := by
  unfold xW at *
  rw [e1, e2, f1, f2]; exact h
theorem xF_of {sc sm tc tm : XS} (h : xF sc sm) (e : tc.1 32 = sc.1 32) (f : tm.1 14 = sm.1 14) : xF tc tm := by
  unfold xF at *
  rw [e, f]; exact h
theorem xJ_of {sc sm tc tm : XS} {n : Nat} {A B C : Nat → Int} {Kd : Nat → Nat} {P : Nat} {X Y : Nat → Int} (h : xJ sc sm n A B C Kd P X Y) (e : ∀ k, 15 ≤ k → k ≤ 21 → tc.1 k = sc.1 k) (f : tm.1 16 = sm.1 16) : xJ tc tm n A B C Kd P X Y := by
  unfold xJ at *
  rw [e 15 (by omega) (by omega), e 16 (by omega) (by omega), e 17 (by omega) (by omega), e 18 (by omega) (by omega), e 19 (by omega) (by omega), e 20 (by omega) (by omega), e 21 (by omega) (by omega), f]; exact h
theorem xI_of {sc sm tc tm : XS} (h : xI sc sm) (e0 : tc.1 0 3 = sc.1 0 3) (f0 : tm.1 0 15 = sm.1 0 15) (e : ∀ k, 15 ≤ k → k ≤ 21 → tc.1 k = sc.1 k) (f : tm.1 16 = sm.1 16) : xI tc tm := by
  unfold xI at *
  rw [e0, f0]
  rcases h with h | ⟨h1, h2, n, A, B, C, Kd, P, X, Y, h3⟩
  · exact Or.inl h
  · exact Or.inr ⟨h1, h2, n, A, B, C, Kd, P, X, Y, xJ_of h3 e f⟩
/-- what the reference may write while it answers -/
def mS (n : Nat) (st t : XS) : Prop := (∀ k, k = 1 ∨ (5 ≤ k ∧ k ≤ 17) → t.1 k = st.1 k) ∧ (∀ j, j < 20 → t.1 0 j = st.1 0 j) ∧ ∀ s, s < n → t.1 2 s = st.1 2 s ∧ t.1 3 s = st.1 3 s ∧ t.1 4 s = st.1 4 s
theorem mS_rfl (n : Nat) (st : XS) : mS n st st := ⟨fun _ _ => rfl, fun _ _ => rfl, fun _ _ => ⟨rfl, rfl, rfl⟩⟩
theorem mS_trans {n : Nat} {a b c : XS} (h : mS n a b) (g : mS n b c) : mS n a c := ⟨fun k hk => (g.1 k hk).trans (h.1 k hk), fun j hj => (g.2.1 j hj).trans (h.2.1 j hj), fun s hs => ⟨(g.2.2 s hs).1.trans (h.2.2 s hs).1, (g.2.2 s hs).2.1.trans (h.2.2 s hs).2.1, (g.2.2 s hs).2.2.trans (h.2.2 s hs).2.2⟩⟩
theorem mS_u {n : Nat} {a b : XS} (h : lU a b) : mS n a b := ⟨fun k hk => h.2.1 k (by omega) (by omega) (by omega), h.2.2, fun s _ => by
  rw [h.2.1 2 (by omega) (by omega) (by omega), h.2.1 3 (by omega) (by omega) (by omega), h.2.1 4 (by omega) (by omega) (by omega)]; exact ⟨rfl, rfl, rfl⟩⟩
theorem RR_mS {sc sm tm : XS} (h : xz_RR sc sm) (g : ∀ n A B C Kd P X Y, xR sc sm n A B C Kd P X Y → mS n sm tm) : xz_RR sc tm := by
  obtain ⟨⟨n, A, B, C, Kd, P, X, Y, h1⟩, h2, h3, h4, h5⟩ := h
  have q := g n A B C Kd P X Y h1
  exact ⟨⟨n, A, B, C, Kd, P, X, Y, xR_of h1 (fun _ _ _ => rfl) (fun _ _ _ => rfl) rfl (q.2.1 0 (by omega)) (q.2.1 5 (by omega)) (fun k hk => q.1 k (by omega)) q.2.2⟩, xT_of h2 rfl rfl (q.2.1 8 (by omega)) (q.1 9 (by omega)), xW_of h3 rfl rfl (q.2.1 12 (by omega)) (q.1 13 (by omega)), xF_of h4 rfl (q.1 14 (by omega)), xI_of h5 rfl (q.2.1 15 (by omega)) (fun _ _ _ => rfl) (q.1 16 (by omega))⟩
theorem RR_m {sc sm tm : XS} (h : xz_RR sc sm) (g : lU sm tm) : xz_RR sc tm := RR_mS h (fun _ _ _ _ _ _ _ _ _ => mS_u g)
/-! refusals -/
theorem e_no {sc sm : XS} (h : xz_RR sc sm) {r : Nat} (hr : 0 < r) (hr7 : r < 7) : ∃ sc2 sm2, F_All_refuse (zI (-(r : Int))) sc = some (zI (-(r : Int)), sc2) ∧ F_Mod_no (zI (-(r : Int))) sm = some (zI (-(r : Int)), sm2) ∧ xz_RR sc2 sm2 := by
  obtain ⟨⟨n, A, B, C, Kd, P, X, Y, h1⟩, h2, h3, h4, h5⟩ := h
  have e : -zI (-(r : Int)) = zI (r : Int) := by rw [zI_neg]; congr 1; omega
  refine ⟨xs_A sc 32 (upd (sc.1 32) r (sc.1 32 r + 1)), xs_A sm 14 (upd (sm.1 14) r (sm.1 14 r + 1)), ?_, ?_, ?_⟩
  · unfold F_All_refuse
    have e7 : (7 : Int32) = zI ((7 : Nat) : Int) := rfl
    rw [xo_nm_b, e, if_neg (by rw [zI_0, zI_lt (zB_n (by omega)) (by decide)]; omega), e7, if_neg (zI_ge1 (by omega) hr7), xo_rd_z hr7 (by decide), Option.bind_some, xo_ck_z hr7 (by decide), Option.bind_some, xo_nm_b, zI_cl (by omega)]
  · unfold F_Mod_no
    rw [e, xo_rd_z hr7 (by decide), Option.bind_some, xo_ck_z hr7 (by decide), Option.bind_some, xo_nm_b, zI_cl (by omega)]
  · have hc : ∀ k, k ≠ 32 → (xs_A sc 32 (upd (sc.1 32) r (sc.1 32 r + 1))).1 k = sc.1 k := fun k hk => by simp [xs_A, hk]
    have hm : ∀ k, k ≠ 14 → (xs_A sm 14 (upd (sm.1 14) r (sm.1 14 r + 1))).1 k = sm.1 k := fun k hk => by simp [xs_A, hk]
    refine ⟨⟨n, A, B, C, Kd, P, X, Y, xR_of h1 (fun k _ _ => hc k (by omega)) (fun k _ _ => hc k (by omega)) rfl (by rw [hm 0 (by omega)]) (by rw [hm 0 (by omega)]) (fun k _ => hm k (by omega)) (fun s _ => by rw [hm 2 (by omega), hm 3 (by omega), hm 4 (by omega)]; exact ⟨rfl, rfl, rfl⟩)⟩, xT_of h2 (by rw [hc 28 (by omega)]) (hc 29 (by omega)) (by rw [hm 0 (by omega)]) (hm 9 (by omega)), xW_of h3 (by rw [hc 0 (by omega)]) (hc 31 (by omega)) (by rw [hm 0 (by omega)]) (hm 13 (by omega)), fun i hi => ?_, xI_of h5 (by rw [hc 0 (by omega)]) (by rw [hm 0 (by omega)]) (fun k _ _ => hc k (by omega)) (hm 16 (by omega))⟩
    have := h4 i hi
    by_cases e : i = r
    · subst e; simp [xs_A, upd, this]
    · simp [xs_A, upd, e, this]
theorem e_noFar {sc sm : XS} (h : xz_RR sc sm) {r : Nat} (hr : 0 < r) (hr7 : r < 7) : ∃ sc2 sm2, F_All_refuseFar (zI (-(r : Int))) sc = some ((1000000000 : Int32) - zI (-(r : Int)), sc2) ∧ F_Mod_noFar (zI (-(r : Int))) sm = some ((1000000000 : Int32) - zI (-(r : Int)), sm2) ∧ xz_RR sc2 sm2 := by
  obtain ⟨sc2, sm2, h1, h2, h3⟩ := e_no h hr hr7
  refine ⟨sc2, sm2, ?_, ?_, h3⟩
  · unfold F_All_refuseFar; rw [h1]; rfl
  · unfold F_Mod_noFar; rw [h2]; rfl
