/-! the reference's first reading -/
theorem e_mall1 {st : XS} {L : Nat → Nat} {l : Nat} (h : lM st L l) (k : Nat) (f : Nat → Int32) : ((pc L l (pos L l k)).2 = none → ∃ ff, F_Mod_town_b7 (1 : Int32) (mT st (pos L l k) f) = some (.inl ((0 : Int32), mT st (pc L l (pos L l k)).1 ff))) ∧ ((pc L l (pos L l k)).2 ≠ none → ∃ ff, F_Mod_town_b7 (1 : Int32) (mT st (pos L l k) f) = if pos L l (k + 1) = l then some (.inr (.inl ((1 : Int32), mT st (pos L l (k + 1)) ff))) else some (.inl ((1 : Int32), mT st (pos L l (k + 1)) ff))) := by
  have hle := pos_le L l k
  have hle2 := pos_le L l (k + 1)
  have hl := h.1
  have hst := e_mstmt h hle (0 : Int32) f
  unfold F_Mod_town_b7
  rw [if_neg (show ¬ (1 : Int32) = 0 by decide)]
  rcases hst with ⟨h1, f', h2⟩ | ⟨r, f', h1, -, -, -, h2⟩
  · have hpc : pc L l (pos L l k) = ((ps L l (pos L l k)).1, none) := by
      unfold pc
      rcases hp : ps L l (pos L l k) with ⟨b, _ | r⟩
      · rfl
      · rw [hp] at h1; cases h1
    rw [h2]
    unfold xo_bn
    rw [Option.bind_some]
    dsimp only
    rw [if_neg (show ¬ (-1 : Int32) = 1 by decide), hpc]
    refine ⟨fun _ => ⟨f', ?_⟩, fun z => absurd rfl z⟩
    unfold F_Mod_town_m33 F_Mod_town_m34
    rw [if_pos rfl]
  · obtain ⟨b, hb⟩ : ∃ b, ps L l (pos L l k) = (b, some r) := ⟨(ps L l (pos L l k)).1, by rw [← h1]⟩
    have hbl : b ≤ l := by have := ps_le (L := L) hle; rw [hb] at this; exact this
    have h3 : F_Mod_statement (0 : Int32) (mT st (pos L l k) f) = some ((1 : Int32), mT st b f') := by
      rw [h2, hb]
      unfold mpP mpS
      rw [if_pos rfl, if_pos rfl]
      split <;> rfl
    have t1 : F_Mod_is (59 : Int32) (mT st b f') = some (zI (if pt L l 59 b = true then 1 else 0), mT st (if pt L l 59 b = true then b + 1 else b) f') := e_mis (c := 59) h hbl (by decide) f'
    have hpc : pc L l (pos L l k) = if pt L l 59 b = true then (b + 1, some r) else (b, none) := by
      unfold pc; rw [hb]; rfl
    rw [h3]
    unfold xo_bn
    rw [Option.bind_some]
    dsimp only
    rw [if_pos rfl, t1, Option.bind_some]
    dsimp only
    by_cases c : pt L l 59 b = true
    · rw [if_pos c] at hpc
      have hpos : pos L l (k + 1) = b + 1 := by rw [pos_suc, hpc]
      rw [if_pos c, if_neg (show ¬ zI 1 = (0 : Int32) by decide), if_pos c]
      refine ⟨fun z => (by rw [hpc] at z; cases z), fun _ => ⟨f', ?_⟩⟩
      unfold F_Mod_town_m34
      rw [if_neg (show ¬ (1 : Int32) = 0 by decide), mT_10, mT_8, h.2.1, hpos]
      rw [hpos] at hle2
      by_cases e : b + 1 = l
      · rw [if_pos (by rw [e]), if_pos e]
      · rw [if_neg (by rw [zI_eq (zB_n (by omega)) (zB_n (by omega))]; omega), if_neg e]
    · rw [if_neg c] at hpc
      rw [if_neg c, if_pos (show zI 0 = (0 : Int32) from rfl), if_neg c]
      refine ⟨fun _ => ⟨f', ?_⟩, fun z => absurd (by rw [hpc]) z⟩
      unfold F_Mod_town_m33 F_Mod_town_m34
      rw [if_pos rfl, hpc]
theorem e_mallF {st : XS} {L : Nat → Nat} {l m : Nat} (h : lM st L l) (h0 : ∃ ff, st = mT st 0 ff) (hm : m ≤ l) (hF : pF L l m) : ∃ r, xo_lp (fun q : (Int32 × XS) => F_Mod_town_b7 q.1 q.2) 1000000 ((1 : Int32), st) = some r ∧ ∃ ff, r = .inr ((0 : Int32), mT st (pc L l (pos L l m)).1 ff) := by
  have hl := h.1
  refine lp_ex (fun (k : Nat) (x : Int32 × XS) => (k ≤ m → x.1 = (1 : Int32) ∧ ∃ ff, x.2 = mT st (pos L l k) ff) ∧ (m < k → x.1 = (0 : Int32) ∧ ∃ ff, x.2 = mT st (pc L l (pos L l m)).1 ff)) _ (m + 1) 1000000 _ (by omega) ⟨fun _ => ⟨rfl, h0⟩, fun z => absurd z (Nat.not_lt_zero m)⟩ ?_ ?_
  · rintro k ⟨x, t⟩ hk ⟨e1, -⟩
    dsimp only at e1 ⊢
    obtain ⟨rfl, f, rfl⟩ := e1 (by omega)
    by_cases e : k = m
    · subst e
      obtain ⟨ff, e3⟩ := (e_mall1 h k f).1 hF.2
      exact Or.inl ⟨_, e3, fun z => absurd z (by omega), fun _ => ⟨rfl, ff, rfl⟩⟩
    · obtain ⟨q1, q2⟩ := hF.1 k (by omega)
      obtain ⟨ff, e3⟩ := (e_mall1 h k f).2 q1
      rw [if_neg (by omega)] at e3
      exact Or.inl ⟨_, e3, fun _ => ⟨rfl, ff, rfl⟩, fun z => absurd z (by omega)⟩
  · rintro ⟨x, t⟩ ⟨-, e2⟩
    dsimp only at e2 ⊢
    obtain ⟨rfl, f, rfl⟩ := e2 (by omega)
    unfold F_Mod_town_b7
    rw [if_pos rfl]
    exact ⟨_, rfl, f, rfl⟩
theorem e_mallS {st : XS} {L : Nat → Nat} {l m : Nat} (h : lM st L l) (h0 : ∃ ff, st = mT st 0 ff) (hm : m ≤ l) (hS : pS L l m) : ∃ r, xo_lp (fun q : (Int32 × XS) => F_Mod_town_b7 q.1 q.2) 1000000 ((1 : Int32), st) = some r ∧ ∃ ff, r = .inl ((1 : Int32), mT st l ff) := by
  have hl := h.1
  obtain ⟨s1, s2, s3, s4⟩ := hS
  obtain ⟨m', rfl⟩ : ∃ m', m = m' + 1 := ⟨m - 1, by omega⟩
  refine lp_ex (fun (k : Nat) (x : Int32 × XS) => x.1 = (1 : Int32) ∧ ∃ ff, x.2 = mT st (pos L l k) ff) _ m' 1000000 _ (by omega) ⟨rfl, h0⟩ ?_ ?_
  · rintro k ⟨x, t⟩ hk ⟨e1, f, e2⟩
    dsimp only at e1 e2 ⊢
    subst e1; subst e2
    have q2 := s3 k (by omega)
    obtain ⟨ff, e3⟩ := (e_mall1 h k f).2 (s2 k (by omega))
    rw [if_neg (by omega)] at e3
    exact Or.inl ⟨_, e3, rfl, ff, rfl⟩
  · rintro ⟨x, t⟩ ⟨e1, f, e2⟩
    dsimp only at e1 e2 ⊢
    subst e1; subst e2
    obtain ⟨ff, e3⟩ := (e_mall1 h m' f).2 (s2 m' (by omega))
    rw [if_pos s4, s4] at e3
    exact ⟨_, e3, ff, rfl⟩
