/-! the first reading: how far the letters go -/
def pos (L : Nat → Nat) (l : Nat) : Nat → Nat
  | 0 => 0
  | k + 1 => (pc L l (pos L l k)).1
theorem pos_suc (L : Nat → Nat) (l k : Nat) : pos L l (k + 1) = (pc L l (pos L l k)).1 := rfl
theorem pb_le {α β : Type} {l : Nat} {x : Nat × Option α} {g : Nat → α → Nat × Option β} (h : x.1 ≤ l) (hg : ∀ b v, b ≤ l → (g b v).1 ≤ l) : (pb x g).1 ≤ l := by
  rcases x with ⟨b, _ | v⟩
  · exact h
  · exact hg b v h
theorem ps_le {L : Nat → Nat} {l a : Nat} (h : a ≤ l) : (ps L l a).1 ≤ l := by
  unfold ps
  by_cases c1 : pt L l 115 a = true
  · have hl := (pt_lt c1).1
    rw [if_pos c1]
    by_cases c2 : pk L l (a + 1) = true
    · have hl2 : a + 1 < l := by
        unfold pk at c2
        rw [Bool.and_eq_true, decide_eq_true_eq] at c2
        exact c2.1
      rw [if_pos c2]
      exact pb_le (pn_le (by omega)).2 (fun b u hb => pb_le (pn_le hb).2 (fun c v hc => pb_le (pn_le hc).2 (fun d w hd => hd)))
    · rw [if_neg c2]; dsimp only; omega
  · rw [if_neg c1]
    by_cases c2 : pt L l 112 a = true
    · have hl := (pt_lt c2).1
      rw [if_pos c2]
      exact pb_le (pn_le (by omega)).2 (fun b u hb => pb_le (pn_le hb).2 (fun c v hc => hc))
    · rw [if_neg c2]; exact h
theorem pc_le {L : Nat → Nat} {l a : Nat} (h : a ≤ l) : (pc L l a).1 ≤ l := by
  unfold pc
  refine pb_le (ps_le h) (fun b r hb => ?_)
  by_cases c : pt L l 59 b = true
  · have := (pt_lt c).1
    rw [if_pos c]; dsimp only; omega
  · rw [if_neg c]; exact hb
theorem pc_some {L : Nat → Nat} {l a c : Nat} {r : Int × Int × Int × Int} (h : pc L l a = (c, some r)) : ∃ b, ps L l a = (b, some r) ∧ pt L l 59 b = true ∧ c = b + 1 := by
  unfold pc at h
  rcases hp : ps L l a with ⟨b, _ | r2⟩
  · rw [hp] at h; cases h
  · rw [hp] at h
    have h : (if pt L l 59 b = true then (b + 1, some r2) else (b, none)) = (c, some r) := h
    by_cases c1 : pt L l 59 b = true
    · rw [if_pos c1] at h
      obtain ⟨e1, e2⟩ := Prod.mk.inj h
      have e2 := Option.some.inj e2
      subst e2
      exact ⟨b, rfl, c1, e1.symm⟩
    · rw [if_neg c1] at h; cases h
theorem pc_lt {L : Nat → Nat} {l a : Nat} (h : (pc L l a).2 ≠ none) : a < (pc L l a).1 := by
  rcases hp : pc L l a with ⟨c, _ | r⟩
  · rw [hp] at h; exact absurd rfl h
  · obtain ⟨b, h1, h2, h3⟩ := pc_some hp
    have := (ps_rOK h1).2
    show a < c
    omega
def pF (L : Nat → Nat) (l m : Nat) : Prop := (∀ k, k < m → (pc L l (pos L l k)).2 ≠ none ∧ pos L l (k + 1) < l) ∧ (pc L l (pos L l m)).2 = none
def pS (L : Nat → Nat) (l m : Nat) : Prop := 0 < m ∧ (∀ k, k < m → (pc L l (pos L l k)).2 ≠ none) ∧ (∀ k, k + 1 < m → pos L l (k + 1) < l) ∧ pos L l m = l
theorem pos_le (L : Nat → Nat) (l : Nat) : ∀ k, pos L l k ≤ l
  | 0 => Nat.zero_le l
  | k + 1 => pc_le (pos_le L l k)
theorem pos_ge {L : Nat → Nat} {l : Nat} : ∀ {m : Nat}, (∀ k, k < m → (pc L l (pos L l k)).2 ≠ none) → m ≤ pos L l m
  | 0, _ => Nat.zero_le _
  | m + 1, h => by
    have h1 := pos_ge (L := L) (l := l) (m := m) (fun k hk => h k (by omega))
    have h2 := pc_lt (h m (by omega))
    rw [pos_suc]; omega
theorem p_or (L : Nat → Nat) (l : Nat) : ∃ m, m ≤ l ∧ (pF L l m ∨ pS L l m) := by
  have hex : ∃ m, (pc L l (pos L l m)).2 = none ∨ l ≤ pos L l (m + 1) := by
    refine Classical.byContradiction fun hno => ?_
    have hall : ∀ m, (pc L l (pos L l m)).2 ≠ none := fun m z => hno ⟨m, Or.inl z⟩
    have h1 := pos_ge (L := L) (l := l) (m := l + 1) (fun k _ => hall k)
    have h2 := pos_le L l (l + 1)
    omega
  obtain ⟨m, h1, h2⟩ := pk_least _ hex
  have hall : ∀ k, k < m → (pc L l (pos L l k)).2 ≠ none ∧ pos L l (k + 1) < l := fun k hk => by
    have := h2 k hk
    exact ⟨fun z => this (Or.inl z), by
      rcases Nat.lt_or_ge (pos L l (k + 1)) l with q | q
      · exact q
      · exact absurd (Or.inr q) this⟩
  have hge := pos_ge (L := L) (l := l) (m := m) (fun k hk => (hall k hk).1)
  have hle := pos_le L l m
  by_cases c : (pc L l (pos L l m)).2 = none
  · exact ⟨m, by omega, Or.inl ⟨hall, c⟩⟩
  · have hl : l ≤ pos L l (m + 1) := h1.resolve_left c
    have hl2 := pos_le L l (m + 1)
    have hlt := pc_lt c
    rw [← pos_suc] at hlt
    refine ⟨m + 1, by omega, Or.inr ⟨by omega, fun k hk => ?_, fun k hk => (hall k (by omega)).2, by omega⟩⟩
    by_cases e : k = m
    · subst e; exact c
    · exact (hall k (by omega)).1
/-- the class's first reading -/
theorem e_all1 {st : XS} {L : Nat → Nat} {l : Nat} (h : lC st L l) (k : Nat) (t : XS) (ht : ∃ kk ff, t = cS st (pos L l k) kk ff) : ((pc L l (pos L l k)).2 = none → ∃ kk ff, F_Let_readAll_b7 (zI (k : Int)) t = some (.inr (.inl (cS st (pc L l (pos L l k)).1 kk ff)))) ∧ ((pc L l (pos L l k)).2 ≠ none → ∃ kk ff, F_Let_readAll_b7 (zI (k : Int)) t = if l ≤ pos L l (k + 1) then some (.inr (.inr (zI ((k + 1 : Nat) : Int), cS st (pos L l (k + 1)) kk ff))) else if zI ((k + 1 : Nat) : Int) < (96 : Int32) then some (.inl (zI ((k + 1 : Nat) : Int), cS st (pos L l (k + 1)) kk ff)) else some (.inr (.inr (zI ((k + 1 : Nat) : Int), cS st (pos L l (k + 1)) kk ff)))) := by
  obtain ⟨kk, ff, rfl⟩ := ht
  have hle := pos_le L l k
  have hle2 := pos_le L l (k + 1)
  have hl := h.1
  obtain ⟨k', f', e1, e2⟩ := e_readStmt h hle kk ff
  unfold F_Let_readAll_b7
  rw [e1]
  unfold xo_bn
  rw [Option.bind_some]
  dsimp only
  rcases hp : pc L l (pos L l k) with ⟨c, _ | r⟩
  · refine ⟨fun _ => ⟨k', f', ?_⟩, fun z => absurd rfl z⟩
    rw [if_neg (show ¬ (Option.isSome (none : Option (Int × Int × Int × Int))) = true by decide), if_pos (show zI 0 = (0 : Int32) from rfl)]
  · refine ⟨fun z => (by cases z), fun _ => ⟨k', f', ?_⟩⟩
    have hpos : pos L l (k + 1) = c := by rw [pos_suc, hp]
    rw [if_pos (show (Option.isSome (some r)) = true from rfl), if_neg (show ¬ zI 1 = (0 : Int32) by decide), xo_nm_b, zI_suc, cS_1, cS_2, h.2.1, hpos]
    rw [hpos] at hle2
    by_cases c1 : l ≤ c
    · rw [if_pos (by rw [zI_le (zB_n (by omega)) (zB_n (by omega))]; omega), if_pos c1]
    · rw [if_neg (by rw [zI_le (zB_n (by omega)) (zB_n (by omega))]; omega), if_neg c1]
theorem e_allF {st : XS} {L : Nat → Nat} {l m : Nat} (h : lC st L l) (h0 : ∃ kk ff, st = cS st 0 kk ff) (hm : m ≤ l) (hF : pF L l m) : ∃ r, xo_lp (fun q : (Int32 × XS) => F_Let_readAll_b7 q.1 q.2) 1000000 ((0 : Int32), st) = some r ∧ ∃ kk ff, r = .inl (cS st (pc L l (pos L l m)).1 kk ff) := by
  have hl := h.1
  refine lp_ex (fun (k : Nat) (x : Int32 × XS) => x.1 = zI (k : Int) ∧ ∃ kk ff, x.2 = cS st (pos L l k) kk ff) _ m 1000000 _ (by omega) ⟨rfl, h0⟩ ?_ ?_
  · rintro k ⟨x, t⟩ hk ⟨e1, e2⟩
    dsimp only at e1 e2 ⊢
    subst e1
    obtain ⟨q1, q2⟩ := hF.1 k hk
    obtain ⟨kk, ff, e3⟩ := (e_all1 h k t e2).2 q1
    rw [if_neg (by omega), if_pos (by rw [show (96 : Int32) = zI 96 from rfl, zI_lt (zB_n (by omega)) (by decide)]; have := pos_ge (L := L) (l := l) (m := k + 1) (fun j hj => (hF.1 j (by omega)).1); omega)] at e3
    exact Or.inl ⟨_, e3, rfl, kk, ff, rfl⟩
  · rintro ⟨x, t⟩ ⟨e1, e2⟩
    dsimp only at e1 e2 ⊢
    subst e1
    obtain ⟨kk, ff, e3⟩ := (e_all1 h m t e2).1 hF.2
    exact ⟨_, e3, kk, ff, rfl⟩
theorem e_allS {st : XS} {L : Nat → Nat} {l m : Nat} (h : lC st L l) (h0 : ∃ kk ff, st = cS st 0 kk ff) (hm : m ≤ l) (hS : pS L l m) : ∃ r, xo_lp (fun q : (Int32 × XS) => F_Let_readAll_b7 q.1 q.2) 1000000 ((0 : Int32), st) = some r ∧ ∃ kk ff, r = .inr (zI (m : Int), cS st l kk ff) := by
  have hl := h.1
  obtain ⟨s1, s2, s3, s4⟩ := hS
  obtain ⟨m', rfl⟩ : ∃ m', m = m' + 1 := ⟨m - 1, by omega⟩
  refine lp_ex (fun (k : Nat) (x : Int32 × XS) => x.1 = zI (k : Int) ∧ ∃ kk ff, x.2 = cS st (pos L l k) kk ff) _ m' 1000000 _ (by omega) ⟨rfl, h0⟩ ?_ ?_
  · rintro k ⟨x, t⟩ hk ⟨e1, e2⟩
    dsimp only at e1 e2 ⊢
    subst e1
    have q2 := s3 k (by omega)
    obtain ⟨kk, ff, e3⟩ := (e_all1 h k t e2).2 (s2 k (by omega))
    rw [if_neg (by omega), if_pos (by rw [show (96 : Int32) = zI 96 from rfl, zI_lt (zB_n (by omega)) (by decide)]; have := pos_ge (L := L) (l := l) (m := k + 1) (fun j hj => s2 j (by omega)); omega)] at e3
    exact Or.inl ⟨_, e3, rfl, kk, ff, rfl⟩
  · rintro ⟨x, t⟩ ⟨e1, e2⟩
    dsimp only at e1 e2 ⊢
    subst e1
    obtain ⟨kk, ff, e3⟩ := (e_all1 h m' t e2).2 (s2 m' (by omega))
    rw [if_pos (by omega), s4] at e3
    exact ⟨_, e3, kk, ff, rfl⟩
