/-! a statement read, as the class does it -/
def kx (c : Nat) : Int := if c = 112 then 0 else if c = 108 then 1 else if c = 100 then 2 else if c = 103 then 3 else if c = 116 then 4 else if c = 110 then 5 else -1
theorem kx_b (c : Nat) : -1 ≤ kx c ∧ kx c < 6 := by
  unfold kx
  split
  · omega
  · split
    · omega
    · split
      · omega
      · split
        · omega
        · split
          · omega
          · split <;> omega
theorem e_ix : ∀ c, c < 256 → F_Str_indexOf1 (zI ((c : Nat) : Int)) = some (zI (kx c)) := by decide +kernel
theorem e_chr : ∀ c, c < 256 → ((zI ((c : Nat) : Int)).toUInt32 % 65536).toInt32 = zI ((c : Nat) : Int) := by decide +kernel
def pk (L : Nat → Nat) (l a : Nat) : Bool := decide (a < l) && decide (0 ≤ kx (L a))
def pb {α β : Type} (x : Nat × Option α) (g : Nat → α → Nat × Option β) : Nat × Option β := match x with
  | (a, none) => (a, none)
  | (a, some v) => g a v
def ps (L : Nat → Nat) (l a : Nat) : Nat × Option (Int × Int × Int × Int) :=
  if pt L l 115 a = true then
    if pk L l (a + 1) = true then pb (pn L l false (a + 2)) fun b u => pb (pn L l false b) fun c v => pb (pn L l true c) fun d w => (d, some (kx (L (a + 1)), u, v, w))
    else (a + 1, none)
  else if pt L l 112 a = true then pb (pn L l true (a + 1)) fun b u => pb (pn L l true b) fun c v => (c, some (-1, u, v, 0))
  else (a, none)
def pc (L : Nat → Nat) (l a : Nat) : Nat × Option (Int × Int × Int × Int) := pb (ps L l a) fun b r => if pt L l 59 b = true then (b + 1, some r) else (b, none)
theorem pn_le {L : Nat → Nat} {l : Nat} {two : Bool} {a : Nat} (h : a ≤ l) : a ≤ (pn L l two a).1 ∧ (pn L l two a).1 ≤ l := by
  unfold pn
  by_cases c1 : (pt L l 45 a || pt L l 43 a) = true
  · have hl : a < l := by
      rw [Bool.or_eq_true] at c1
      rcases c1 with c | c <;> exact (pt_lt c).1
    rw [if_pos c1]
    by_cases c2 : pd L l (a + 1) = true
    · have := (pd_lt c2).1
      rw [if_pos c2]
      by_cases c3 : (two && pd L l (a + 2)) = true
      · rw [if_pos c3]
        rw [Bool.and_eq_true] at c3
        have := (pd_lt c3.2).1
        exact ⟨by dsimp only; omega, by dsimp only; omega⟩
      · rw [if_neg c3]
        exact ⟨by dsimp only; omega, by dsimp only; omega⟩
    · rw [if_neg c2]
      exact ⟨by dsimp only; omega, by dsimp only; omega⟩
  · rw [if_neg c1]
    exact ⟨Nat.le_refl a, h⟩
theorem pn_val {L : Nat → Nat} {l : Nat} {two : Bool} {a b : Nat} {v : Int} (h : pn L l two a = (b, some v)) : ab (if two then 99 else 9) v ∧ a < b := by
  unfold pn at h
  by_cases c1 : (pt L l 45 a || pt L l 43 a) = true
  · rw [if_pos c1] at h
    by_cases c2 : pd L l (a + 1) = true
    · obtain ⟨-, d1, d2⟩ := pd_lt c2
      rw [if_pos c2] at h
      by_cases c3 : (two && pd L l (a + 2)) = true
      · rw [if_pos c3] at h
        rw [Bool.and_eq_true] at c3
        obtain ⟨-, d3, d4⟩ := pd_lt c3.2
        obtain ⟨e1, e2⟩ := Prod.mk.inj h
        have e2 := Option.some.inj e2
        rw [c3.1, if_pos rfl]
        unfold psn at e2
        unfold ab
        split at e2 <;> exact ⟨by omega, by omega⟩
      · rw [if_neg c3] at h
        obtain ⟨e1, e2⟩ := Prod.mk.inj h
        have e2 := Option.some.inj e2
        unfold psn at e2
        unfold ab
        cases two <;> (split at e2 <;> exact ⟨by simp; omega, by omega⟩)
    · rw [if_neg c2] at h
      obtain ⟨e1, e2⟩ := Prod.mk.inj h
      cases e2
  · rw [if_neg c1] at h
    obtain ⟨e1, e2⟩ := Prod.mk.inj h
    cases e2
theorem e_rn_n {st : XS} {L : Nat → Nat} {l a b w : Nat} (h : lC st L l) (ha : a ≤ l) (hw : w < 3) (two : Bool) (k : Int32) (f : Nat → Int32) (hp : pn L l two a = (b, none)) : F_Let_readNumber (zI (w : Int)) (zI ((if two then 2 else 1 : Nat) : Int)) (cS st a k f) = some (0, cS st b k f) := by
  rw [e_readNum h ha hw, hp]
theorem e_rn_s {st : XS} {L : Nat → Nat} {l a b w : Nat} {v : Int} (h : lC st L l) (ha : a ≤ l) (hw : w < 3) (two : Bool) (k : Int32) (f : Nat → Int32) (hp : pn L l two a = (b, some v)) : F_Let_readNumber (zI (w : Int)) (zI ((if two then 2 else 1 : Nat) : Int)) (cS st a k f) = some (1, cS st b k (upd f w (zI v))) := by
  rw [e_readNum h ha hw, hp]
theorem e_readKind {st : XS} {L : Nat → Nat} {l a : Nat} (h : lC st L l) (ha : a ≤ l) (k : Int32) (f : Nat → Int32) : F_Let_readKind (cS st a k f) = some (zI (if pk L l a = true then 1 else 0), cS st (if pk L l a = true then a + 1 else a) (if a < l then zI (kx (L a)) else -1) f) := by
  obtain ⟨h1, h2, h3⟩ := h
  unfold F_Let_readKind F_Let_readKind_m31
  rw [cS_1, cS_2, cS_29, h2]
  by_cases hl : a < l
  · obtain ⟨g1, g2⟩ := h3 a hl
    have hb := kx_b (L a)
    rw [if_neg (zI_ge1 (by omega) hl), xo_rd_z (show a < 96 by omega) (by decide), Option.bind_some, g2, e_chr _ g1, e_ix _ g1, Option.bind_some, xo_nm_b, cS_kind, cS_3, cS_2, xo_nm_b, zI_suc, cS_at, if_pos hl]
    have k1 : (0 : Int32) ≤ zI (kx (L a)) ↔ 0 ≤ kx (L a) := zi_le (by decide) ⟨by omega, by omega⟩ _ _ rfl rfl
    simp only [k1]
    unfold pk
    rw [decide_eq_true hl, Bool.true_and]
    by_cases c : 0 ≤ kx (L a)
    · rw [if_pos c, decide_eq_true c, if_pos rfl, if_pos rfl]; rfl
    · rw [if_neg c, decide_eq_false c, if_neg (by decide), if_neg (by decide)]; rfl
  · have hp : ¬ pk L l a = true := by unfold pk; simp [hl]
    have e : a = l := by omega
    rw [if_pos (by rw [e]; exact zI_rfl _), xo_nm_b, cS_kind, cS_3, if_neg (show ¬ (0 : Int32) ≤ (-1 : Int32) by decide), if_neg hp, if_neg hp, if_neg hl]; rfl
def pOK (st : XS) (x : Option (Int32 × XS)) (y : Nat × Option (Int × Int × Int × Int)) : Prop := ∃ (k' : Int32) (f' : Nat → Int32), x = some (zI (if y.2.isSome = true then 1 else 0), cS st y.1 k' f') ∧ ∀ r, y.2 = some r → k' = zI r.1 ∧ f' 0 = zI r.2.1 ∧ f' 1 = zI r.2.2.1 ∧ (0 ≤ r.1 → f' 2 = zI r.2.2.2)
theorem pOK_no {st : XS} {b : Nat} {k : Int32} {f : Nat → Int32} : pOK st (some ((0 : Int32), cS st b k f)) (b, none) := ⟨k, f, rfl, fun r h => by cases h⟩
theorem e_semi {st : XS} {L : Nat → Nat} {l d : Nat} (h : lC st L l) (hd : d ≤ l) (k : Int32) (f : Nat → Int32) (r : Int × Int × Int × Int) (h1 : k = zI r.1) (h2 : f 0 = zI r.2.1) (h3 : f 1 = zI r.2.2.1) (h4 : 0 ≤ r.1 → f 2 = zI r.2.2.2) : pOK st (xo_bn (F_Let_takes (59 : Int32) (cS st d k f)) fun v20 t21 => if v20 = (0 : Int32) then some ((0 : Int32), t21) else some ((1 : Int32), t21)) (if pt L l 59 d = true then (d + 1, some r) else (d, none)) := by
  have t1 : F_Let_takes (59 : Int32) (cS st d k f) = some (zI (if pt L l 59 d = true then 1 else 0), cS st (if pt L l 59 d = true then d + 1 else d) k f) := e_takes (c := 59) h hd (by decide) k f
  rw [t1]
  unfold xo_bn
  rw [Option.bind_some]
  dsimp only
  by_cases c : pt L l 59 d = true
  · rw [if_pos c, if_pos c, if_neg (show ¬ zI 1 = (0 : Int32) by decide), if_pos c]
    exact ⟨k, f, rfl, fun r2 h9 => by cases h9; exact ⟨h1, h2, h3, h4⟩⟩
  · rw [if_neg c, if_neg c, if_pos (show zI 0 = (0 : Int32) from rfl), if_neg c]
    exact pOK_no
theorem e_readStmt {st : XS} {L : Nat → Nat} {l a : Nat} (h : lC st L l) (ha : a ≤ l) (k : Int32) (f : Nat → Int32) : pOK st (F_Let_readStatement (cS st a k f)) (pc L l a) := by
  unfold F_Let_readStatement pc ps
  have t1 : F_Let_takes (115 : Int32) (cS st a (-1 : Int32) f) = some (zI (if pt L l 115 a = true then 1 else 0), cS st (if pt L l 115 a = true then a + 1 else a) (-1 : Int32) f) := e_takes (c := 115) h ha (by decide) _ f
  rw [xo_nm_b, cS_kind, t1]
  unfold xo_bn
  rw [Option.bind_some]
  dsimp only
  by_cases c1 : pt L l 115 a = true
  · have hl := (pt_lt c1).1
    rw [if_pos c1, if_pos c1, if_neg (show ¬ zI 1 = (0 : Int32) by decide), if_pos c1, e_readKind h (show a + 1 ≤ l by omega), Option.bind_some]
    dsimp only
    by_cases c2 : pk L l (a + 1) = true
    · have hl2 : a + 1 < l := by
        unfold pk at c2
        rw [Bool.and_eq_true, decide_eq_true_eq] at c2
        exact c2.1
      rw [if_pos c2, if_pos c2, if_neg (show ¬ zI 1 = (0 : Int32) by decide), if_pos c2, if_pos hl2]
      generalize hkz : zI (kx (L (a + 1))) = kz
      rcases hp : pn L l false (a + 2) with ⟨b, _ | u⟩
      · have r0 : F_Let_readNumber (0 : Int32) (1 : Int32) (cS st (a + 2) kz f) = some (0, cS st b kz f) := e_rn_n (w := 0) h (by omega) (by decide) false kz f hp
        have r0' : F_Let_readNumber (0 : Int32) (1 : Int32) (cS st (a + 1 + 1) kz f) = some (0, cS st b kz f) := r0
        rw [r0', Option.bind_some]
        dsimp only
        rw [if_pos rfl]
        exact pOK_no
      · have r0 : F_Let_readNumber (0 : Int32) (1 : Int32) (cS st (a + 2) kz f) = some (1, cS st b kz (upd f 0 (zI u))) := e_rn_s (w := 0) h (by omega) (by decide) false kz f hp
        have r0' : F_Let_readNumber (0 : Int32) (1 : Int32) (cS st (a + 1 + 1) kz f) = some (1, cS st b kz (upd f 0 (zI u))) := r0
        have hb : b ≤ l := by have := (pn_le (L := L) (two := false) (show a + 2 ≤ l by omega)).2; rw [hp] at this; exact this
        rw [r0', Option.bind_some]
        dsimp only
        rw [if_neg (show ¬ (1 : Int32) = 0 by decide)]
        show pOK st _ (pb (pb (pn L l false b) _) _)
        rcases hp2 : pn L l false b with ⟨c, _ | v⟩
        · have r1 : F_Let_readNumber (1 : Int32) (1 : Int32) (cS st b kz (upd f 0 (zI u))) = some (0, cS st c kz (upd f 0 (zI u))) := e_rn_n (w := 1) h hb (by decide) false kz _ hp2
          rw [r1, Option.bind_some]
          dsimp only
          rw [if_pos rfl]
          exact pOK_no
        · have r1 : F_Let_readNumber (1 : Int32) (1 : Int32) (cS st b kz (upd f 0 (zI u))) = some (1, cS st c kz (upd (upd f 0 (zI u)) 1 (zI v))) := e_rn_s (w := 1) h hb (by decide) false kz _ hp2
          have hc : c ≤ l := by have := (pn_le (L := L) (two := false) hb).2; rw [hp2] at this; exact this
          rw [r1, Option.bind_some]
          dsimp only
          rw [if_neg (show ¬ (1 : Int32) = 0 by decide)]
          show pOK st _ (pb (pb (pn L l true c) _) _)
          rcases hp3 : pn L l true c with ⟨d, _ | w⟩
          · have r2 : F_Let_readNumber (2 : Int32) (2 : Int32) (cS st c kz (upd (upd f 0 (zI u)) 1 (zI v))) = some (0, cS st d kz (upd (upd f 0 (zI u)) 1 (zI v))) := e_rn_n (w := 2) h hc (by decide) true kz _ hp3
            rw [r2, Option.bind_some]
            dsimp only
            rw [if_pos rfl]
            exact pOK_no
          · have r2 : F_Let_readNumber (2 : Int32) (2 : Int32) (cS st c kz (upd (upd f 0 (zI u)) 1 (zI v))) = some (1, cS st d kz (upd (upd (upd f 0 (zI u)) 1 (zI v)) 2 (zI w))) := e_rn_s (w := 2) h hc (by decide) true kz _ hp3
            have hd : d ≤ l := by have := (pn_le (L := L) (two := true) hc).2; rw [hp3] at this; exact this
            rw [r2, Option.bind_some]
            dsimp only
            rw [if_neg (show ¬ (1 : Int32) = 0 by decide)]
            exact e_semi h hd kz _ (kx (L (a + 1)), u, v, w) hkz.symm (by rw [upd_n (by decide), upd_n (by decide), upd_e]) (by rw [upd_n (by decide), upd_e]) (fun _ => by rw [upd_e])
    · rw [if_neg c2, if_neg c2, if_pos (show zI 0 = (0 : Int32) from rfl), if_neg c2]
      exact pOK_no
  · have t2 : F_Let_takes (112 : Int32) (cS st a (-1 : Int32) f) = some (zI (if pt L l 112 a = true then 1 else 0), cS st (if pt L l 112 a = true then a + 1 else a) (-1 : Int32) f) := e_takes (c := 112) h ha (by decide) _ f
    rw [if_neg c1, if_neg c1, if_pos (show zI 0 = (0 : Int32) from rfl), if_neg c1, t2, Option.bind_some]
    dsimp only
    by_cases c2 : pt L l 112 a = true
    · have hl := (pt_lt c2).1
      rw [if_pos c2, if_pos c2, if_neg (show ¬ zI 1 = (0 : Int32) by decide), if_pos c2]
      rcases hp : pn L l true (a + 1) with ⟨b, _ | u⟩
      · have r0 : F_Let_readNumber (0 : Int32) (2 : Int32) (cS st (a + 1) (-1 : Int32) f) = some (0, cS st b (-1 : Int32) f) := e_rn_n (w := 0) h (by omega) (by decide) true _ f hp
        rw [r0, Option.bind_some]
        dsimp only
        rw [if_pos rfl]
        exact pOK_no
      · have r0 : F_Let_readNumber (0 : Int32) (2 : Int32) (cS st (a + 1) (-1 : Int32) f) = some (1, cS st b (-1 : Int32) (upd f 0 (zI u))) := e_rn_s (w := 0) h (by omega) (by decide) true _ f hp
        have hb : b ≤ l := by have := (pn_le (L := L) (two := true) (show a + 1 ≤ l by omega)).2; rw [hp] at this; exact this
        rw [r0, Option.bind_some]
        dsimp only
        rw [if_neg (show ¬ (1 : Int32) = 0 by decide)]
        show pOK st _ (pb (pb (pn L l true b) _) _)
        rcases hp2 : pn L l true b with ⟨c, _ | v⟩
        · have r1 : F_Let_readNumber (1 : Int32) (2 : Int32) (cS st b (-1 : Int32) (upd f 0 (zI u))) = some (0, cS st c (-1 : Int32) (upd f 0 (zI u))) := e_rn_n (w := 1) h hb (by decide) true _ _ hp2
          rw [r1, Option.bind_some]
          dsimp only
          rw [if_pos rfl]
          exact pOK_no
        · have r1 : F_Let_readNumber (1 : Int32) (2 : Int32) (cS st b (-1 : Int32) (upd f 0 (zI u))) = some (1, cS st c (-1 : Int32) (upd (upd f 0 (zI u)) 1 (zI v))) := e_rn_s (w := 1) h hb (by decide) true _ _ hp2
          have hc : c ≤ l := by have := (pn_le (L := L) (two := true) hb).2; rw [hp2] at this; exact this
          rw [r1, Option.bind_some]
          dsimp only
          rw [if_neg (show ¬ (1 : Int32) = 0 by decide)]
          exact e_semi h hc (-1 : Int32) _ (-1, u, v, 0) rfl (by rw [upd_n (by decide), upd_e]) (by rw [upd_e]) (fun z => absurd (show (0 : Int) ≤ -1 from z) (by decide))
    · rw [if_neg c2, if_neg c2, if_pos (show zI 0 = (0 : Int32) from rfl), if_neg c2]
      exact pOK_no
