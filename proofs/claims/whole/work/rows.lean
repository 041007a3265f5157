section
/-! THE PURE SIDE'S WORDS: a state is ints by (cell, place) and longs by number; reads and writes are checked; loops have fuel -/
abbrev XS : Type := (Nat → Nat → Int32) × (Nat → Int64)
def xs_A (s : XS) (k : Nat) (f : Nat → Int32) : XS := (fun k' => if k' = k then f else s.1 k', s.2)
def xs_I (s : XS) (k j : Nat) (v : Int32) : XS := (fun k' => if k' = k then upd (s.1 k) j v else s.1 k', s.2)
def xs_L (s : XS) (j : Nat) (v : Int64) : XS := (s.1, fun j' => if j' = j then v else s.2 j')
def xo_rd (f : Nat → Int32) (n : Nat) (i : Int32) : Option Int32 := if i < 0 then none else if n ≤ i.toNatClampNeg then none else some (f i.toNatClampNeg)
def xo_ck (n : Nat) (i : Int32) : Option Unit := if i < 0 then none else if n ≤ i.toNatClampNeg then none else some ()
def xo_dv (x y : Int32) : Option Int32 := if y = 0 then none else some (x / y)
def xo_rm (x y : Int32) : Option Int32 := if y = 0 then none else some (x - x / y * y)
def xo_cb (v : Int32) : Option Int32 := if v = 0 then some 0 else if v = 1 then some 1 else none
def xo_nm {α β : Type} (v : α) (f : α → Option β) : Option β := f v
def xo_bn {α β γ : Type} (x : Option (α × β)) (f : α → β → Option γ) : Option γ := x.bind fun q => f q.1 q.2
def xo_u2 {α β γ : Type} (f : α → β → Option γ) : α × β → Option γ := fun q => f q.1 q.2
def xo_u3 {α β δ γ : Type} (f : α → β → δ → Option γ) : α × β × δ → Option γ := fun q => f q.1 q.2.1 q.2.2
def xo_u4 {α β δ ε γ : Type} (f : α → β → δ → ε → Option γ) : α × β × δ × ε → Option γ := fun q => f q.1 q.2.1 q.2.2.1 q.2.2.2
def xo_u5 {α β δ ε ζ γ : Type} (f : α → β → δ → ε → ζ → Option γ) : α × β × δ × ε × ζ → Option γ := fun q => f q.1 q.2.1 q.2.2.1 q.2.2.2.1 q.2.2.2.2
def xo_lp {σ ρ : Type} (f : σ → Option (σ ⊕ ρ)) : Nat → σ → Option ρ
  | 0, _ => none
  | n + 1, x => (f x).bind (Sum.elim (xo_lp f n) some)
theorem xo_ob {α β : Type} {x : Option α} {f : α → Option β} {b : β} (h : x.bind f = some b) : ∃ a, x = some a ∧ f a = some b := by
  cases x with
  | none => cases h
  | some a => exact ⟨a, rfl, h⟩
theorem xo_ob2 {α β γ : Type} {x : Option (α × β)} {f : α → β → Option γ} {b : γ} (h : xo_bn x f = some b) : ∃ a c, x = some (a, c) ∧ f a c = some b := by
  cases x with
  | none => cases h
  | some a => exact ⟨a.1, a.2, rfl, h⟩
theorem xo_u2e {α β γ : Type} {f : α → β → Option γ} {a : α} {b : β} {r : Option γ} (h : xo_u2 f (a, b) = r) : f a b = r := h
theorem xo_u3e {α β δ γ : Type} {f : α → β → δ → Option γ} {a : α} {b : β} {d : δ} {r : Option γ} (h : xo_u3 f (a, b, d) = r) : f a b d = r := h
theorem xo_u4e {α β δ ε γ : Type} {f : α → β → δ → ε → Option γ} {a : α} {b : β} {d : δ} {e : ε} {r : Option γ} (h : xo_u4 f (a, b, d, e) = r) : f a b d e = r := h
theorem xo_u5e {α β δ ε ζ γ : Type} {f : α → β → δ → ε → ζ → Option γ} {a : α} {b : β} {d : δ} {e : ε} {z : ζ} {r : Option γ} (h : xo_u5 f (a, b, d, e, z) = r) : f a b d e z = r := h
theorem xo_elL {α β γ : Type} {f : α → Option γ} {g : β → Option γ} {a : α} {r : Option γ} (h : Sum.elim f g (.inl a) = r) : f a = r := h
theorem xo_elR {α β γ : Type} {f : α → Option γ} {g : β → Option γ} {a : β} {r : Option γ} (h : Sum.elim f g (.inr a) = r) : g a = r := h
theorem xo_rd_e {f : Nat → Int32} {n : Nat} {i v : Int32} (h : xo_rd f n i = some v) : vp_in i n ∧ f i.toNatClampNeg = v := by
  unfold xo_rd at h
  by_cases h1 : i < 0
  · rw [if_pos h1] at h; cases h
  · rw [if_neg h1] at h
    by_cases h2 : n ≤ i.toNatClampNeg
    · rw [if_pos h2] at h; cases h
    · rw [if_neg h2] at h
      exact ⟨fun q => q.elim h1 h2, Option.some.inj h⟩
theorem xo_ck_e {n : Nat} {i : Int32} {u : Unit} (h : xo_ck n i = some u) : vp_in i n := by
  unfold xo_ck at h
  by_cases h1 : i < 0
  · rw [if_pos h1] at h; cases h
  · rw [if_neg h1] at h
    by_cases h2 : n ≤ i.toNatClampNeg
    · rw [if_pos h2] at h; cases h
    · exact fun q => q.elim h1 h2
theorem xo_dv_e {x y v : Int32} (h : xo_dv x y = some v) : ¬ y = 0 ∧ x / y = v := by
  unfold xo_dv at h
  by_cases h1 : y = 0
  · rw [if_pos h1] at h; cases h
  · rw [if_neg h1] at h; exact ⟨h1, Option.some.inj h⟩
theorem xo_rm_e {x y v : Int32} (h : xo_rm x y = some v) : ¬ y = 0 ∧ x - x / y * y = v := by
  unfold xo_rm at h
  by_cases h1 : y = 0
  · rw [if_pos h1] at h; cases h
  · rw [if_neg h1] at h; exact ⟨h1, Option.some.inj h⟩
theorem xo_cb_e {v r : Int32} (h : xo_cb v = some r) : v = r ∧ (r = 0 ∨ r = 1) := by
  unfold xo_cb at h
  by_cases h1 : v = 0
  · rw [if_pos h1] at h; cases h; exact ⟨h1, Or.inl rfl⟩
  · rw [if_neg h1] at h
    by_cases h2 : v = 1
    · rw [if_pos h2] at h; cases h; exact ⟨h2, Or.inr rfl⟩
    · rw [if_neg h2] at h; cases h
theorem xo_nm_e {α β : Type} {v : α} {f : α → Option β} {b : β} (h : xo_nm v f = some b) : ∃ y, y = v ∧ f y = some b := ⟨v, rfl, h⟩
theorem xo_if_t {α : Type} {c : Prop} {inst : Decidable c} {a b r : α} (hc : c) (h : (@ite _ c inst a b) = r) : a = r := by rw [if_pos hc] at h; exact h
theorem xo_if_f {α : Type} {c : Prop} {inst : Decidable c} {a b r : α} (hc : ¬ c) (h : (@ite _ c inst a b) = r) : b = r := by rw [if_neg hc] at h; exact h
theorem xo_lp_s {σ ρ : Type} {f : σ → Option (σ ⊕ ρ)} {n : Nat} {x : σ} {r : ρ} (h : xo_lp f (n + 1) x = some r) : ∃ y, f x = some y ∧ Sum.elim (xo_lp f n) some y = some r := xo_ob h
theorem xo_nm_u {α β : Type} {v y : α} {f : α → Option β} {b : β} (h : xo_nm v f = some b) (e : y = v) : f y = some b := by subst e; exact h
theorem xo_s2 {α β : Type} {a c : α} {b d : β} (h : some (a, b) = some (c, d)) : a = c ∧ b = d := ⟨congrArg Prod.fst (Option.some.inj h), congrArg Prod.snd (Option.some.inj h)⟩
end
section
/-! THE PURE FUNCTIONS, printed out of the bytecode by walk.py: F_<method>; _b<pc>: a round of the loop whose head is at pc; _m<pc>: from the merge at pc on -/
def F_Tow_turn (x1 : Int32) (x2 : Int32) (x3 : Int32) (st : XS) : Option Int32 := (xo_rd (st.1 4) 6 x3).bind fun v1 => (xo_rd (st.1 3) 6 x3).bind fun v2 => some ((x1 * v1) - (x2 * v2))
def F_Tow_crossingX (x1 : Int32) (x2 : Int32) (st : XS) : Option Int32 := (xo_rd (st.1 5) 6 x1).bind fun v1 => (xo_rd (st.1 4) 6 x2).bind fun v2 => (xo_rd (st.1 4) 6 x1).bind fun v3 => (xo_rd (st.1 5) 6 x2).bind fun v4 => xo_nm (((v1 * v2) - (v3 * v4))) fun v5 => (xo_rd (st.1 3) 6 x1).bind fun v6 => (xo_rd (st.1 4) 6 x1).bind fun v7 => (F_Tow_turn v6 v7 x2 st).bind fun v8 => if (0 : Int32) ≤ v8 then some v5 else some (-v5)
def F_Tow_crossingY (x1 : Int32) (x2 : Int32) (st : XS) : Option Int32 := (xo_rd (st.1 3) 6 x1).bind fun v1 => (xo_rd (st.1 5) 6 x2).bind fun v2 => (xo_rd (st.1 5) 6 x1).bind fun v3 => (xo_rd (st.1 3) 6 x2).bind fun v4 => xo_nm (((v1 * v2) - (v3 * v4))) fun v5 => (xo_rd (st.1 3) 6 x1).bind fun v6 => (xo_rd (st.1 4) 6 x1).bind fun v7 => (F_Tow_turn v6 v7 x2 st).bind fun v8 => if (0 : Int32) ≤ v8 then some v5 else some (-v5)
def F_Tow_crossingBelow (x1 : Int32) (x2 : Int32) (st : XS) : Option Int32 := (xo_rd (st.1 3) 6 x1).bind fun v1 => (xo_rd (st.1 4) 6 x1).bind fun v2 => (F_Tow_turn v1 v2 x2 st).bind fun v3 => some (if 0 ≤ v3 then v3 else 0 - v3)
def F_Pla_height (x1 : Int32) (x2 : Int32) (x3 : Int32) (x4 : Int32) (st : XS) : Option Int32 := (xo_rd (st.1 3) 6 x4).bind fun v1 => (xo_rd (st.1 4) 6 x4).bind fun v2 => (xo_rd (st.1 5) 6 x4).bind fun v3 => some (((v1 * x1) + (v2 * x2)) - (v3 * x3))
def F_Pla_streetsThrough_b6 (x1 : Int32) (x2 : Int32) (x3 : Int32) (st : XS) (x4 : Int32) (x5 : Int32) : Option ((Int32 × Int32) ⊕ Int32) := if (st.1 1 4) ≤ x5 then some (.inr x4) else (F_Pla_height x1 x2 x3 x5 st).bind fun v1 => if v1 = (0 : Int32) then xo_nm ((x4 ||| ((1 : Int32) <<< (x5 &&& 31)))) fun v2 => xo_nm (x5 + (1 : Int32)) fun v3 => some (.inl (v2, v3)) else xo_nm (x5 + (1 : Int32)) fun v4 => some (.inl (x4, v4))
def F_Pla_streetsThrough (x1 : Int32) (x2 : Int32) (x3 : Int32) (st : XS) : Option Int32 := (xo_lp (fun q : (Int32 × Int32) => F_Pla_streetsThrough_b6 x1 x2 x3 st q.1 q.2) 1000000 ((0 : Int32), (0 : Int32))).bind (fun o5 => some o5)
def F_Pla_sidesOfPoint_b6 (x1 : Int32) (x2 : Int32) (x3 : Int32) (st : XS) (x4 : Int32) (x5 : Int32) : Option ((Int32 × Int32) ⊕ Int32) := if (st.1 1 4) ≤ x5 then some (.inr x4) else (F_Pla_height x1 x2 x3 x5 st).bind fun v1 => if v1 ≤ (0 : Int32) then xo_nm (x5 + (1 : Int32)) fun v2 => some (.inl (x4, v2)) else xo_nm ((x4 ||| ((1 : Int32) <<< (x5 &&& 31)))) fun v3 => xo_nm (x5 + (1 : Int32)) fun v4 => some (.inl (v3, v4))
def F_Pla_sidesOfPoint (x1 : Int32) (x2 : Int32) (x3 : Int32) (st : XS) : Option Int32 := (xo_lp (fun q : (Int32 × Int32) => F_Pla_sidesOfPoint_b6 x1 x2 x3 st q.1 q.2) 1000000 ((0 : Int32), (0 : Int32))).bind (fun o5 => some o5)
def F_Pla_measurePoints_m95 (x1 : Int32) (x2 : Int32) (x3 : Int32) (x4 : Int32) (x5 : Int32) (x6 : Int32) (k0 : Int32) (st : XS) : Option ((Int32 × XS) ⊕ XS) := if k0 = (0 : Int32) then xo_nm (x2 + (1 : Int32)) fun v1 => some (.inl (v1, st)) else if (15 : Int32) ≤ (st.1 22 3) then xo_nm (x2 + (1 : Int32)) fun v2 => some (.inl (v2, st)) else (xo_ck 15 (st.1 22 3)).bind fun _ => xo_nm (xs_A st 23 (upd (st.1 23) ((st.1 22 3)).toNatClampNeg x3)) fun t3 => (xo_ck 15 (t3.1 22 3)).bind fun _ => xo_nm (xs_A t3 24 (upd (t3.1 24) ((t3.1 22 3)).toNatClampNeg x4)) fun t4 => (xo_ck 15 (t4.1 22 3)).bind fun _ => xo_nm (xs_A t4 25 (upd (t4.1 25) ((t4.1 22 3)).toNatClampNeg x5)) fun t5 => (xo_ck 15 (t5.1 22 3)).bind fun _ => xo_nm (xs_A t5 26 (upd (t5.1 26) ((t5.1 22 3)).toNatClampNeg x6)) fun t6 => (F_Pla_sidesOfPoint x3 x4 x5 t6).bind fun v7 => (xo_ck 15 (t6.1 22 3)).bind fun _ => xo_nm (xs_A t6 27 (upd (t6.1 27) ((t6.1 22 3)).toNatClampNeg v7)) fun t8 => xo_nm (xs_I t8 22 3 ((t8.1 22 3) + (1 : Int32))) fun t9 => xo_nm (x2 + (1 : Int32)) fun v10 => some (.inl (v10, t9))
def F_Pla_measurePoints_b22 (x1 : Int32) (x2 : Int32) (st : XS) : Option ((Int32 × XS) ⊕ XS) := if (st.1 1 4) ≤ x2 then some (.inr st) else (F_Tow_crossingX x1 x2 st).bind fun v11 => (F_Tow_crossingY x1 x2 st).bind fun v12 => (F_Tow_crossingBelow x1 x2 st).bind fun v13 => (F_Pla_streetsThrough v11 v12 v13 st).bind fun v14 => if (v14 &&& (((1 : Int32) <<< (x2 &&& 31)) - (1 : Int32))) = ((1 : Int32) <<< (x1 &&& 31)) then F_Pla_measurePoints_m95 x1 x2 v11 v12 v13 v14 (1 : Int32) st else F_Pla_measurePoints_m95 x1 x2 v11 v12 v13 v14 (0 : Int32) st
def F_Pla_measurePoints_b7 (x1 : Int32) (st : XS) : Option ((Int32 × XS) ⊕ XS) := if (st.1 1 4) ≤ x1 then some (.inr st) else xo_nm ((x1 + (1 : Int32))) fun v15 => (xo_lp (fun q : (Int32 × XS) => F_Pla_measurePoints_b22 x1 q.1 q.2) 1000000 (v15, st)).bind (fun t16 => xo_nm (x1 + (1 : Int32)) fun v17 => some (.inl (v17, t16)))
def F_Pla_measurePoints (st : XS) : Option XS := xo_nm (xs_I st 22 3 (0 : Int32)) fun t18 => (xo_lp (fun q : (Int32 × XS) => F_Pla_measurePoints_b7 q.1 q.2) 1000000 ((0 : Int32), t18)).bind (fun t19 => some t19)
def F_Pla_sidesFar_b6 (x1 : Int32) (x2 : Int32) (x3 : Int32) (st : XS) (x4 : Int32) (x5 : Int32) : Option ((Int32 × Int32) ⊕ Int32) := if (st.1 1 4) ≤ x5 then some (.inr x4) else (F_Tow_turn x1 x2 x5 st).bind fun v1 => if (x3 * v1) ≤ (0 : Int32) then xo_nm (x5 + (1 : Int32)) fun v2 => some (.inl (x4, v2)) else xo_nm ((x4 ||| ((1 : Int32) <<< (x5 &&& 31)))) fun v3 => xo_nm (x5 + (1 : Int32)) fun v4 => some (.inl (v3, v4))
def F_Pla_sidesFar (x1 : Int32) (x2 : Int32) (x3 : Int32) (st : XS) : Option Int32 := (xo_lp (fun q : (Int32 × Int32) => F_Pla_sidesFar_b6 x1 x2 x3 st q.1 q.2) 1000000 ((0 : Int32), (0 : Int32))).bind (fun o5 => some o5)
def F_Pla_cutBy_m54 (x1 : Int32) (x2 : Int32) (x3 : Int32) (x4 : Int64) (x6 : Int32) (x7 : Int32) (k0 : Int32) (st : XS) : Option ((Int64 × Int32) ⊕ Int64) := (xo_rd (st.1 4) 6 x6).bind fun v1 => (xo_rd (st.1 5) 6 x6).bind fun v2 => xo_nm ((k0 * ((x3 * v1) - (x2 * v2)))) fun v3 => (xo_rd (st.1 5) 6 x6).bind fun v4 => (xo_rd (st.1 3) 6 x6).bind fun v5 => xo_nm ((k0 * ((x1 * v4) - (x3 * v5)))) fun v6 => (F_Pla_sidesOfPoint v3 v6 (k0 * x7) st).bind fun v7 => (F_Pla_streetsThrough v3 v6 (k0 * x7) st).bind fun v8 => (F_Pla_sidesFar x1 x2 (-1 : Int32) st).bind fun v9 => xo_nm ((x4 ||| ((1 : Int64) <<< ((v7 ||| (v8 &&& v9)).toInt64 &&& 63)))) fun v10 => xo_nm (x6 + (1 : Int32)) fun v11 => some (.inl (v10, v11))
def F_Pla_cutBy_b14 (x1 : Int32) (x2 : Int32) (x3 : Int32) (st : XS) (x4 : Int64) (x6 : Int32) : Option ((Int64 × Int32) ⊕ Int64) := if (st.1 1 4) ≤ x6 then some (.inr x4) else (F_Tow_turn x1 x2 x6 st).bind fun v12 => if v12 = (0 : Int32) then xo_nm (x6 + (1 : Int32)) fun v13 => some (.inl (x4, v13)) else if (0 : Int32) ≤ v12 then F_Pla_cutBy_m54 x1 x2 x3 x4 x6 v12 (1 : Int32) st else F_Pla_cutBy_m54 x1 x2 x3 x4 x6 v12 (-1 : Int32) st
def F_Pla_cutBy (x1 : Int32) (x2 : Int32) (x3 : Int32) (st : XS) : Option Int64 := (F_Pla_sidesFar x1 x2 (1 : Int32) st).bind fun v14 => xo_nm (((1 : Int64) <<< (v14.toInt64 &&& 63))) fun v15 => (xo_lp (fun q : (Int64 × Int32) => F_Pla_cutBy_b14 x1 x2 x3 st q.1 q.2) 1000000 (v15, (0 : Int32))).bind (fun o16 => some o16)
def F_Pla_onBothSides (x0 : Int64) (x2 : Int32) : Option Int64 := some (x0 ||| (x0 <<< (((1 : Int32) <<< (x2 &&& 31)).toInt64 &&& 63)))
def F_Pla_measureQuarters_b29 (x1 : Int32) (st : XS) : Option ((Int32 × XS) ⊕ XS) := if (st.1 1 4) ≤ x1 then some (.inr st) else (xo_rd (st.1 3) 6 x1).bind fun v1 => (xo_rd (st.1 4) 6 x1).bind fun v2 => (F_Pla_sidesFar v1 v2 (1 : Int32) st).bind fun v3 => (F_Pla_sidesFar v1 v2 (-1 : Int32) st).bind fun v4 => xo_nm ((((1 : Int64) <<< (v3.toInt64 &&& 63)) ||| ((1 : Int64) <<< (v4.toInt64 &&& 63)))) fun v5 => (xo_rd (st.1 5) 6 x1).bind fun v6 => (F_Pla_cutBy v1 v2 v6 st).bind fun v7 => (F_Pla_onBothSides v7 x1).bind fun v8 => xo_nm (xs_L st 0 ((st.2 0) ||| v8)) fun t9 => (F_Pla_onBothSides v5 x1).bind fun v10 => xo_nm (xs_L t9 1 ((t9.2 1) ||| v10)) fun t11 => xo_nm (x1 + (1 : Int32)) fun v12 => some (.inl (v12, t11))
def F_Pla_measureQuarters_m16 (k1 : Int64) (st : XS) : Option XS := xo_nm (xs_L st 0 k1) fun t13 => xo_nm (xs_L t13 1 (t13.2 0)) fun t14 => (xo_lp (fun q : (Int32 × XS) => F_Pla_measureQuarters_b29 q.1 q.2) 1000000 ((0 : Int32), t14)).bind (fun t15 => some t15)
def F_Pla_measureQuarters (st : XS) : Option XS := if (st.1 1 4) = (0 : Int32) then F_Pla_measureQuarters_m16 (1 : Int64) st else F_Pla_measureQuarters_m16 (0 : Int64) st
def F_Pla_measure (st : XS) : Option XS := (F_Pla_measurePoints st).bind fun t1 => (F_Pla_measureQuarters t1).bind fun t2 => some t2
def F_All_refuse (x1 : Int32) (st : XS) : Option (Int32 × XS) := xo_nm ((-x1)) fun v1 => if v1 < (0 : Int32) then some (x1, st) else if (7 : Int32) ≤ v1 then some (x1, st) else (xo_rd (st.1 32) 7 v1).bind fun v2 => (xo_ck 7 v1).bind fun _ => xo_nm (xs_A st 32 (upd (st.1 32) (v1).toNatClampNeg (v2 + (1 : Int32)))) fun t3 => some (x1, t3)
def F_Let_isFull (st : XS) : Option Int32 := if (st.1 28 1) < (96 : Int32) then some (0 : Int32) else some (1 : Int32)
def F_Let_put (x1 : Int32) (st : XS) : Option (Int32 × XS) := (F_Let_isFull st).bind fun v1 => if v1 = (0 : Int32) then (xo_ck 96 (st.1 28 1)).bind fun _ => xo_nm (xs_A st 29 (upd (st.1 29) ((st.1 28 1)).toNatClampNeg x1)) fun t2 => xo_nm (xs_I t2 28 1 ((t2.1 28 1) + (1 : Int32))) fun t3 => some ((t3.1 28 1), t3) else some ((st.1 28 1), st)
def F_All_letter_m28  (st : XS) : Option (Int32 × XS) := xo_bn (F_All_refuse (-6 : Int32) st) fun v1 t2 => some (v1, t2)
def F_All_letter (x1 : Int32) (st : XS) : Option (Int32 × XS) := if (0 : Int32) ≤ x1 then if (255 : Int32) < x1 then F_All_letter_m28 st else (F_Let_isFull st).bind fun v3 => if v3 = (0 : Int32) then xo_bn (F_Let_put x1 st) fun v4 t5 => some (v4, t5) else F_All_letter_m28 st else xo_bn (F_All_refuse (-4 : Int32) st) fun v6 t7 => some (v6, t7)
def F_Tow_copyFrom (st : XS) : Option XS := xo_nm (xs_A st 9 (va_cpy (st.1 2) (st.1 9) 0 0 6)) fun t1 => xo_nm (xs_A t1 10 (va_cpy (t1.1 3) (t1.1 10) 0 0 6)) fun t2 => xo_nm (xs_A t2 11 (va_cpy (t2.1 4) (t2.1 11) 0 0 6)) fun t3 => xo_nm (xs_A t3 12 (va_cpy (t3.1 5) (t3.1 12) 0 0 6)) fun t4 => xo_nm (xs_I t4 8 4 (t4.1 1 4)) fun t5 => xo_nm (xs_A t5 13 (va_cpy (t5.1 6) (t5.1 13) 0 0 8)) fun t6 => xo_nm (xs_A t6 14 (va_cpy (t6.1 7) (t6.1 14) 0 0 8)) fun t7 => xo_nm (xs_I t7 8 7 (t7.1 1 7)) fun t8 => some t8
def F_Let_takes_m29 (k0 : Int32) (st : XS) : Option (Int32 × XS) := if k0 = (0 : Int32) then (xo_cb k0).bind fun v1 => some (v1, st) else xo_nm (xs_I st 28 2 ((st.1 28 2) + (1 : Int32))) fun t2 => (xo_cb k0).bind fun v3 => some (v3, t2)
def F_Let_takes_m28  (st : XS) : Option (Int32 × XS) := F_Let_takes_m29 (0 : Int32) st
def F_Let_takes (x1 : Int32) (st : XS) : Option (Int32 × XS) := if (st.1 28 1) ≤ (st.1 28 2) then F_Let_takes_m28 st else (xo_rd (st.1 29) 96 (st.1 28 2)).bind fun v4 => if v4 = x1 then F_Let_takes_m29 (1 : Int32) st else F_Let_takes_m28 st
def F_Str_isLatin1 : Option Int32 := if (1 : Int32) = (0 : Int32) then some (0 : Int32) else if (0 : Int32) = (0 : Int32) then some (1 : Int32) else some (0 : Int32)
def F_Str_coder : Option Int32 := if (1 : Int32) = (0 : Int32) then some (1 : Int32) else some (0 : Int32)
def F_Str_length : Option Int32 := (F_Str_coder).bind fun v1 => some ((6 : Int32) >>> (v1 &&& 31))
def F_Lat_canEncode (x0 : Int32) : Option Int32 := if x0 < (0 : Int32) then some (0 : Int32) else if (255 : Int32) < x0 then some (0 : Int32) else some (1 : Int32)
def F_Lat_indexOfChar_b7 (x3 : Int32) (x4 : Int32) (x5 : Int32) : Option (Int32 ⊕ (Int32 ⊕ Unit)) := if x3 ≤ x5 then some (.inr (.inr ())) else (xo_rd (fun j => [112, 108, 100, 103, 116, 110].getD j 0) 6 x5).bind fun v1 => if v1 = x4 then some (.inr (.inl x5)) else xo_nm (x5 + (1 : Int32)) fun v2 => some (.inl v2)
def F_Lat_indexOfChar (x1 : Int32) (x2 : Int32) (x3 : Int32) : Option Int32 := xo_nm ((x1.toInt8.toInt32)) fun v3 => (xo_lp (fun q : Int32 => F_Lat_indexOfChar_b7 x3 v3 q) 1000000 x2).bind (Sum.elim (fun o4 => some o4) (fun _ => some (-1 : Int32)))
def F_Lat_indexOf (x1 : Int32) (x2 : Int32) (x3 : Int32) : Option Int32 := (F_Lat_canEncode x1).bind fun v1 => if v1 = (0 : Int32) then some (-1 : Int32) else xo_nm ((if x2 < (0 : Int32) then (0 : Int32) else x2)) fun v2 => xo_nm ((if (6 : Int32) < x3 then (6 : Int32) else x3)) fun v3 => if v2 < v3 then (F_Lat_indexOfChar x1 v2 v3).bind fun v4 => some v4 else some (-1 : Int32)
def F_Str_indexOf2 (x1 : Int32) (x2 : Int32) : Option Int32 := (F_Str_isLatin1).bind fun v1 => if v1 = (0 : Int32) then none else (F_Str_length).bind fun v2 => (F_Lat_indexOf x1 x2 v2).bind fun v3 => some v3
def F_Str_indexOf1 (x1 : Int32) : Option Int32 := (F_Str_indexOf2 x1 (0 : Int32)).bind fun v1 => some v1
def F_Let_readKind_m31 (k1 : Int32) (st : XS) : Option (Int32 × XS) := xo_nm (xs_I st 28 3 k1) fun t1 => if (0 : Int32) ≤ (t1.1 28 3) then xo_nm (xs_I t1 28 2 ((t1.1 28 2) + (1 : Int32))) fun t2 => some ((1 : Int32), t2) else some ((0 : Int32), t1)
def F_Let_readKind (st : XS) : Option (Int32 × XS) := if (st.1 28 1) ≤ (st.1 28 2) then F_Let_readKind_m31 (-1 : Int32) st else (xo_rd (st.1 29) 96 (st.1 28 2)).bind fun v3 => (F_Str_indexOf1 ((v3.toUInt32 % 65536).toInt32)).bind fun v4 => F_Let_readKind_m31 v4 st
def F_Let_isDigit (st : XS) : Option Int32 := if (st.1 28 1) ≤ (st.1 28 2) then some (0 : Int32) else (xo_rd (st.1 29) 96 (st.1 28 2)).bind fun v1 => if v1 < (48 : Int32) then some (0 : Int32) else (xo_rd (st.1 29) 96 (st.1 28 2)).bind fun v2 => if (57 : Int32) < v2 then some (0 : Int32) else some (1 : Int32)
def F_Let_readNumber_b35 (x1 : Int32) (x2 : Int32) (x3 : Int32) (x4 : Int32) (x5 : Int32) (st : XS) : Option ((Int32 × Int32 × XS) ⊕ (Int32 × XS)) := if x2 ≤ x5 then some (.inr (x4, st)) else (F_Let_isDigit st).bind fun v1 => if v1 = (0 : Int32) then some (.inr (x4, st)) else (xo_rd (st.1 29) 96 (st.1 28 2)).bind fun v2 => xo_nm ((((x4 * (10 : Int32)) + v2) - (48 : Int32))) fun v3 => xo_nm (xs_I st 28 2 ((st.1 28 2) + (1 : Int32))) fun t4 => xo_nm (x5 + (1 : Int32)) fun v5 => some (.inl (v3, v5, t4))
def F_Let_readNumber_m20 (x1 : Int32) (x2 : Int32) (x3 : Int32) (st : XS) : Option (Int32 × XS) := (F_Let_isDigit st).bind fun v6 => if v6 = (0 : Int32) then some ((0 : Int32), st) else (xo_lp (fun q : (Int32 × Int32 × XS) => F_Let_readNumber_b35 x1 x2 x3 q.1 q.2.1 q.2.2) 1000000 ((0 : Int32), (0 : Int32), st)).bind (xo_u2 fun o7 t8 => if x3 = (0 : Int32) then (xo_ck 3 x1).bind fun _ => xo_nm (xs_A t8 30 (upd (t8.1 30) (x1).toNatClampNeg o7)) fun t9 => some ((1 : Int32), t9) else (xo_ck 3 x1).bind fun _ => xo_nm (xs_A t8 30 (upd (t8.1 30) (x1).toNatClampNeg (-o7))) fun t10 => some ((1 : Int32), t10))
def F_Let_readNumber (x1 : Int32) (x2 : Int32) (st : XS) : Option (Int32 × XS) := xo_bn (F_Let_takes (45 : Int32) st) fun v11 t12 => if v11 = (0 : Int32) then xo_bn (F_Let_takes (43 : Int32) t12) fun v13 t14 => if v13 = (0 : Int32) then some ((0 : Int32), t14) else F_Let_readNumber_m20 x1 x2 v11 t14 else F_Let_readNumber_m20 x1 x2 v11 t12
def F_Let_readStatement (st : XS) : Option (Int32 × XS) := xo_nm (xs_I st 28 3 (-1 : Int32)) fun t1 => xo_bn (F_Let_takes (115 : Int32) t1) fun v2 t3 => if v2 = (0 : Int32) then xo_bn (F_Let_takes (112 : Int32) t3) fun v4 t5 => if v4 = (0 : Int32) then some ((0 : Int32), t5) else xo_bn (F_Let_readNumber (0 : Int32) (2 : Int32) t5) fun v6 t7 => if v6 = (0 : Int32) then some ((0 : Int32), t7) else xo_bn (F_Let_readNumber (1 : Int32) (2 : Int32) t7) fun v8 t9 => if v8 = (0 : Int32) then some ((0 : Int32), t9) else xo_bn (F_Let_takes (59 : Int32) t9) fun v10 t11 => if v10 = (0 : Int32) then some ((0 : Int32), t11) else some ((1 : Int32), t11) else xo_bn (F_Let_readKind t3) fun v12 t13 => if v12 = (0 : Int32) then some ((0 : Int32), t13) else xo_bn (F_Let_readNumber (0 : Int32) (1 : Int32) t13) fun v14 t15 => if v14 = (0 : Int32) then some ((0 : Int32), t15) else xo_bn (F_Let_readNumber (1 : Int32) (1 : Int32) t15) fun v16 t17 => if v16 = (0 : Int32) then some ((0 : Int32), t17) else xo_bn (F_Let_readNumber (2 : Int32) (2 : Int32) t17) fun v18 t19 => if v18 = (0 : Int32) then some ((0 : Int32), t19) else xo_bn (F_Let_takes (59 : Int32) t19) fun v20 t21 => if v20 = (0 : Int32) then some ((0 : Int32), t21) else some ((1 : Int32), t21)
def F_Let_readAll_b7 (x1 : Int32) (st : XS) : Option ((Int32 × XS) ⊕ (XS ⊕ (Int32 × XS))) := xo_bn (F_Let_readStatement st) fun v1 t2 => if v1 = (0 : Int32) then some (.inr (.inl t2)) else xo_nm (x1 + (1 : Int32)) fun v3 => if (t2.1 28 1) ≤ (t2.1 28 2) then some (.inr (.inr (v3, t2))) else if v3 < (96 : Int32) then some (.inl (v3, t2)) else some (.inr (.inr (v3, t2)))
def F_Let_readAll (st : XS) : Option (Int32 × XS) := xo_nm (xs_I st 28 2 (0 : Int32)) fun t4 => (xo_lp (fun q : (Int32 × XS) => F_Let_readAll_b7 q.1 q.2) 1000000 ((0 : Int32), t4)).bind (Sum.elim (fun t5 => some (((-1000 : Int32) - (t5.1 28 2)), t5)) (xo_u2 fun o6 t7 => some (o6, t7)))
def F_Tow_putPlot_m23 (x1 : Int32) (x2 : Int32) (k0 : Int32) (st : XS) : Option (Int32 × XS) := if k0 = (0 : Int32) then if (st.1 8 7) < (8 : Int32) then (xo_ck 8 (st.1 8 7)).bind fun _ => xo_nm (xs_A st 13 (upd (st.1 13) ((st.1 8 7)).toNatClampNeg x1)) fun t1 => (xo_ck 8 (t1.1 8 7)).bind fun _ => xo_nm (xs_A t1 14 (upd (t1.1 14) ((t1.1 8 7)).toNatClampNeg x2)) fun t2 => xo_nm (xs_I t2 8 7 ((t2.1 8 7) + (1 : Int32))) fun t3 => some ((1 : Int32), t3) else some ((0 : Int32), st) else some ((0 : Int32), st)
def F_Tow_putPlot_m18 (x1 : Int32) (x2 : Int32) (st : XS) : Option (Int32 × XS) := F_Tow_putPlot_m23 x1 x2 (1 : Int32) st
def F_Tow_putPlot (x1 : Int32) (x2 : Int32) (st : XS) : Option (Int32 × XS) := if (20 : Int32) < (if 0 ≤ x1 then x1 else 0 - x1) then F_Tow_putPlot_m18 x1 x2 st else if (if 0 ≤ x2 then x2 else 0 - x2) ≤ (20 : Int32) then F_Tow_putPlot_m23 x1 x2 (0 : Int32) st else F_Tow_putPlot_m18 x1 x2 st
def F_Tow_turn_v1 (x1 : Int32) (x2 : Int32) (x3 : Int32) (st : XS) : Option Int32 := (xo_rd (st.1 11) 6 x3).bind fun v1 => (xo_rd (st.1 10) 6 x3).bind fun v2 => some ((x1 * v1) - (x2 * v2))
def F_Tow_hasDirection_b2 (x1 : Int32) (x2 : Int32) (st : XS) (x3 : Int32) : Option (Int32 ⊕ (Unit ⊕ Unit)) := if (st.1 8 4) ≤ x3 then some (.inr (.inr ())) else (F_Tow_turn_v1 x1 x2 x3 st).bind fun v1 => if v1 = (0 : Int32) then some (.inr (.inl ())) else xo_nm (x3 + (1 : Int32)) fun v2 => some (.inl v2)
def F_Tow_hasDirection (x1 : Int32) (x2 : Int32) (st : XS) : Option Int32 := (xo_lp (fun q : Int32 => F_Tow_hasDirection_b2 x1 x2 st q) 1000000 (0 : Int32)).bind (Sum.elim (fun _ => some (1 : Int32)) (fun _ => some (0 : Int32)))
def F_Tow_putStreet_m13 (x1 : Int32) (x2 : Int32) (x3 : Int32) (x4 : Int32) (k0 : Int32) (st : XS) : Option (Int32 × XS) := if k0 = (0 : Int32) then (F_Tow_hasDirection x2 x3 st).bind fun v1 => if v1 = (0 : Int32) then if (st.1 8 4) < (6 : Int32) then (xo_ck 6 (st.1 8 4)).bind fun _ => xo_nm (xs_A st 9 (upd (st.1 9) ((st.1 8 4)).toNatClampNeg x1)) fun t2 => (xo_ck 6 (t2.1 8 4)).bind fun _ => xo_nm (xs_A t2 10 (upd (t2.1 10) ((t2.1 8 4)).toNatClampNeg x2)) fun t3 => (xo_ck 6 (t3.1 8 4)).bind fun _ => xo_nm (xs_A t3 11 (upd (t3.1 11) ((t3.1 8 4)).toNatClampNeg x3)) fun t4 => (xo_ck 6 (t4.1 8 4)).bind fun _ => xo_nm (xs_A t4 12 (upd (t4.1 12) ((t4.1 8 4)).toNatClampNeg x4)) fun t5 => xo_nm (xs_I t5 8 4 ((t5.1 8 4) + (1 : Int32))) fun t6 => some ((1 : Int32), t6) else some ((0 : Int32), st) else some ((0 : Int32), st) else some ((0 : Int32), st)
def F_Tow_putStreet_m12 (x1 : Int32) (x2 : Int32) (x3 : Int32) (x4 : Int32) (st : XS) : Option (Int32 × XS) := F_Tow_putStreet_m13 x1 x2 x3 x4 (0 : Int32) st
def F_Tow_putStreet (x1 : Int32) (x2 : Int32) (x3 : Int32) (x4 : Int32) (st : XS) : Option (Int32 × XS) := if x2 = (0 : Int32) then if x3 = (0 : Int32) then F_Tow_putStreet_m13 x1 x2 x3 x4 (1 : Int32) st else F_Tow_putStreet_m12 x1 x2 x3 x4 st else F_Tow_putStreet_m12 x1 x2 x3 x4 st
def F_Let_putStatement (st : XS) : Option (Int32 × XS) := if (st.1 28 3) = (-1 : Int32) then (xo_rd (st.1 30) 3 (0 : Int32)).bind fun v1 => (xo_rd (st.1 30) 3 (1 : Int32)).bind fun v2 => xo_bn (F_Tow_putPlot v1 v2 st) fun v3 t4 => (xo_cb v3).bind fun v5 => some (v5, t4) else (xo_rd (st.1 30) 3 (0 : Int32)).bind fun v6 => (xo_rd (st.1 30) 3 (1 : Int32)).bind fun v7 => (xo_rd (st.1 30) 3 (2 : Int32)).bind fun v8 => xo_bn (F_Tow_putStreet (st.1 28 3) v6 v7 v8 st) fun v9 t10 => (xo_cb v9).bind fun v11 => some (v11, t10)
def F_Let_readInto_b18 (x2 : Int32) (x3 : Int32) (st : XS) : Option ((Int32 × XS) ⊕ ((Int32 × XS) ⊕ XS)) := if x2 ≤ x3 then some (.inr (.inr st)) else xo_nm ((st.1 28 2)) fun v1 => xo_bn (F_Let_readStatement st) fun v2 t3 => if v2 = (0 : Int32) then some (.inr (.inl (v1, t3))) else xo_bn (F_Let_putStatement t3) fun v4 t5 => if v4 = (0 : Int32) then some (.inr (.inl (v1, t5))) else xo_nm (x3 + (1 : Int32)) fun v6 => some (.inl (v6, t5))
def F_Let_readInto (st : XS) : Option (Int32 × XS) := xo_bn (F_Let_readAll st) fun v7 t8 => if (0 : Int32) ≤ v7 then xo_nm (xs_I t8 28 2 (0 : Int32)) fun t9 => (xo_lp (fun q : (Int32 × XS) => F_Let_readInto_b18 v7 q.1 q.2) 1000000 ((0 : Int32), t9)).bind (Sum.elim (xo_u2 fun o10 t11 => some (((-2000 : Int32) - o10), t11)) (fun t12 => some (v7, t12))) else some (v7, t8)
def F_Let_clear (st : XS) : Option XS := xo_nm (xs_I st 28 1 (0 : Int32)) fun t1 => some t1
def F_Tow_copyFrom_v1 (st : XS) : Option XS := xo_nm (xs_A st 2 (va_cpy (st.1 9) (st.1 2) 0 0 6)) fun t1 => xo_nm (xs_A t1 3 (va_cpy (t1.1 10) (t1.1 3) 0 0 6)) fun t2 => xo_nm (xs_A t2 4 (va_cpy (t2.1 11) (t2.1 4) 0 0 6)) fun t3 => xo_nm (xs_A t3 5 (va_cpy (t3.1 12) (t3.1 5) 0 0 6)) fun t4 => xo_nm (xs_I t4 1 4 (t4.1 8 4)) fun t5 => xo_nm (xs_A t5 6 (va_cpy (t5.1 13) (t5.1 6) 0 0 8)) fun t6 => xo_nm (xs_A t6 7 (va_cpy (t6.1 14) (t6.1 7) 0 0 8)) fun t7 => xo_nm (xs_I t7 1 7 (t7.1 8 7)) fun t8 => some t8
def F_All_town (st : XS) : Option (Int32 × XS) := (F_Tow_copyFrom st).bind fun t1 => xo_bn (F_Let_readInto t1) fun v2 t3 => (F_Let_clear t3).bind fun t4 => if v2 ≤ (0 : Int32) then some (v2, t4) else (F_Tow_copyFrom_v1 t4).bind fun t5 => (F_Pla_measure t5).bind fun t6 => some (v2, t6)
def F_Tow_hasStreet (x1 : Int32) (st : XS) : Option Int32 := if x1 < (0 : Int32) then some (0 : Int32) else if (st.1 1 4) ≤ x1 then some (0 : Int32) else some (1 : Int32)
def F_All_refuseFar (x1 : Int32) (st : XS) : Option (Int32 × XS) := xo_bn (F_All_refuse x1 st) fun v1 t2 => some (((1000000000 : Int32) - v1), t2)
def F_Int_bitCount (x0 : Int32) : Option Int32 := xo_nm ((x0 - (((x0.toUInt32 >>> ((1 : Int32).toUInt32 &&& Int32.toUInt32 31)).toInt32) &&& (1431655765 : Int32)))) fun v1 => xo_nm (((v1 &&& (858993459 : Int32)) + (((v1.toUInt32 >>> ((2 : Int32).toUInt32 &&& Int32.toUInt32 31)).toInt32) &&& (858993459 : Int32)))) fun v2 => xo_nm (((v2 + ((v2.toUInt32 >>> ((4 : Int32).toUInt32 &&& Int32.toUInt32 31)).toInt32)) &&& (252645135 : Int32))) fun v3 => xo_nm ((v3 + ((v3.toUInt32 >>> ((8 : Int32).toUInt32 &&& Int32.toUInt32 31)).toInt32))) fun v4 => xo_nm ((v4 + ((v4.toUInt32 >>> ((16 : Int32).toUInt32 &&& Int32.toUInt32 31)).toInt32))) fun v5 => some (v5 &&& (63 : Int32))
def F_Pla_isSquare (x1 : Int32) (st : XS) : Option Int32 := (xo_rd (st.1 26) 15 x1).bind fun v1 => (F_Int_bitCount v1).bind fun v2 => if v2 < (3 : Int32) then some (0 : Int32) else some (1 : Int32)
def F_Pla_lampsAt (x1 : Int32) (x2 : Int32) (st : XS) : Option Int32 := xo_nm (((2 : Int32) * (1 : Int32))) fun v1 => (xo_rd (st.1 2) 6 x1).bind fun v2 => if v2 = (1 : Int32) then some v1 else if v2 = (2 : Int32) then some (0 : Int32) else if v2 = (3 : Int32) then if x2 = (0 : Int32) then some v1 else some (v1 + (5 : Int32)) else if v2 = (4 : Int32) then some ((1 : Int32) + x1) else if v2 = (5 : Int32) then if x1 = ((st.1 1 4) - (1 : Int32)) then some ((0 : Int32) + (7 : Int32)) else some (0 : Int32) else some (1 : Int32)
def F_Pla_lampsFrom_b4 (x1 : Int32) (st : XS) (x2 : Int32) (x3 : Int32) : Option ((Int32 × Int32) ⊕ Int32) := if (st.1 22 3) ≤ x3 then some (.inr x2) else (xo_rd (st.1 26) 15 x3).bind fun v1 => if ((v1 >>> (x1 &&& 31)) &&& (1 : Int32)) = (0 : Int32) then xo_nm (x3 + (1 : Int32)) fun v2 => some (.inl (x2, v2)) else (F_Pla_isSquare x3 st).bind fun v3 => (F_Pla_lampsAt x1 v3 st).bind fun v4 => xo_nm ((x2 + v4)) fun v5 => xo_nm (x3 + (1 : Int32)) fun v6 => some (.inl (v5, v6))
def F_Pla_lampsFrom (x1 : Int32) (st : XS) : Option Int32 := (xo_lp (fun q : (Int32 × Int32) => F_Pla_lampsFrom_b4 x1 st q.1 q.2) 1000000 ((0 : Int32), (0 : Int32))).bind (fun o7 => some o7)
def F_All_street (x1 : Int32) (x2 : Int32) (st : XS) : Option (Int32 × XS) := (F_Tow_hasStreet x1 st).bind fun v1 => if v1 = (0 : Int32) then xo_bn (F_All_refuseFar (-1 : Int32) st) fun v2 t3 => some (v2, t3) else if x2 = (0 : Int32) then (xo_rd (st.1 2) 6 x1).bind fun v4 => some (v4, st) else if x2 = (1 : Int32) then (xo_rd (st.1 3) 6 x1).bind fun v5 => some (v5, st) else if x2 = (2 : Int32) then (xo_rd (st.1 4) 6 x1).bind fun v6 => some (v6, st) else if x2 = (3 : Int32) then (xo_rd (st.1 5) 6 x1).bind fun v7 => some (v7, st) else if x2 = (4 : Int32) then (F_Pla_lampsFrom x1 st).bind fun v8 => some (v8, st) else xo_bn (F_All_refuseFar (-2 : Int32) st) fun v9 t10 => some (v9, t10)
def F_Tow_hasPlot (x1 : Int32) (st : XS) : Option Int32 := if x1 < (0 : Int32) then some (0 : Int32) else if (st.1 1 7) ≤ x1 then some (0 : Int32) else some (1 : Int32)
def F_All_plot (x1 : Int32) (x2 : Int32) (st : XS) : Option (Int32 × XS) := (F_Tow_hasPlot x1 st).bind fun v1 => if v1 = (0 : Int32) then xo_bn (F_All_refuseFar (-1 : Int32) st) fun v2 t3 => some (v2, t3) else if x2 = (0 : Int32) then (xo_rd (st.1 6) 8 x1).bind fun v4 => some (v4, st) else if x2 = (1 : Int32) then (xo_rd (st.1 7) 8 x1).bind fun v5 => some (v5, st) else xo_bn (F_All_refuseFar (-2 : Int32) st) fun v6 t7 => some (v6, t7)
def F_All_cancelled_b2 (x0 : Int32) (x1 : Int32) (x2 : Int32) (x3 : Int32) : Option (Int32 ⊕ (Int32 ⊕ Unit)) := if x3 ≤ (1 : Int32) then some (.inr (.inr ())) else (xo_rm x1 x3).bind fun v1 => if v1 = (0 : Int32) then (xo_rm x2 x3).bind fun v2 => if v2 = (0 : Int32) then some (.inr (.inl x3)) else xo_nm (x3 + (-1 : Int32)) fun v3 => some (.inl v3) else xo_nm (x3 + (-1 : Int32)) fun v4 => some (.inl v4)
def F_All_cancelled (x0 : Int32) (x1 : Int32) (x2 : Int32) : Option Int32 := (xo_lp (fun q : Int32 => F_All_cancelled_b2 x0 x1 x2 q) 1000000 x2).bind (Sum.elim (fun o5 => (xo_dv x0 o5).bind fun v6 => some v6) (fun _ => some x0))
def F_All_crossing_m27  (st : XS) : Option (Int32 × XS) := xo_bn (F_All_refuseFar (-1 : Int32) st) fun v1 t2 => some (v1, t2)
def F_All_crossing (x1 : Int32) (x2 : Int32) (x3 : Int32) (st : XS) : Option (Int32 × XS) := (F_Tow_hasStreet x1 st).bind fun v3 => if v3 = (0 : Int32) then F_All_crossing_m27 st else (F_Tow_hasStreet x2 st).bind fun v4 => if v4 = (0 : Int32) then F_All_crossing_m27 st else if x1 = x2 then F_All_crossing_m27 st else (F_Tow_crossingBelow x1 x2 st).bind fun v5 => (F_Tow_crossingX x1 x2 st).bind fun v6 => (F_Tow_crossingY x1 x2 st).bind fun v7 => if x3 = (0 : Int32) then (F_All_cancelled v6 v6 v5).bind fun v8 => some (v8, st) else if x3 = (1 : Int32) then (F_All_cancelled v5 v6 v5).bind fun v9 => some (v9, st) else if x3 = (2 : Int32) then (F_All_cancelled v7 v7 v5).bind fun v10 => some (v10, st) else if x3 = (3 : Int32) then (F_All_cancelled v5 v7 v5).bind fun v11 => some (v11, st) else xo_bn (F_All_refuseFar (-2 : Int32) st) fun v12 t13 => some (v12, t13)
def F_Lng_bitCount (x0 : Int64) : Option Int32 := xo_nm ((x0 - (((x0.toUInt64 >>> ((1 : Int32).toInt64.toUInt64 &&& Int64.toUInt64 63)).toInt64) &&& (6148914691236517205 : Int64)))) fun v1 => xo_nm (((v1 &&& (3689348814741910323 : Int64)) + (((v1.toUInt64 >>> ((2 : Int32).toInt64.toUInt64 &&& Int64.toUInt64 63)).toInt64) &&& (3689348814741910323 : Int64)))) fun v2 => xo_nm (((v2 + ((v2.toUInt64 >>> ((4 : Int32).toInt64.toUInt64 &&& Int64.toUInt64 63)).toInt64)) &&& (1085102592571150095 : Int64))) fun v3 => xo_nm ((v3 + ((v3.toUInt64 >>> ((8 : Int32).toInt64.toUInt64 &&& Int64.toUInt64 63)).toInt64))) fun v4 => xo_nm ((v4 + ((v4.toUInt64 >>> ((16 : Int32).toInt64.toUInt64 &&& Int64.toUInt64 63)).toInt64))) fun v5 => xo_nm ((v5 + ((v5.toUInt64 >>> ((32 : Int32).toInt64.toUInt64 &&& Int64.toUInt64 63)).toInt64))) fun v6 => some ((v6.toInt32) &&& (127 : Int32))
def F_All_quarters (st : XS) : Option Int32 := (F_Lng_bitCount (st.2 0)).bind fun v1 => some v1
def F_All_open (st : XS) : Option Int32 := (F_Lng_bitCount (st.2 1)).bind fun v1 => some v1
def F_All_has (x0 : Int64) (x2 : Int32) : Option Int32 := if x2 < (0 : Int32) then some (0 : Int32) else if (64 : Int32) ≤ x2 then some (0 : Int32) else if (lg_cmp ((x0 >>> (x2.toInt64 &&& 63)) &&& (1 : Int64)) (0 : Int64)) = (0 : Int32) then some (0 : Int32) else some (1 : Int32)
def F_Pla_hasQuarter (x1 : Int32) (st : XS) : Option Int32 := (F_All_has (st.2 0) x1).bind fun v1 => (xo_cb v1).bind fun v2 => some v2
def F_Pla_cornersOf_b4 (x1 : Int32) (st : XS) (x2 : Int32) (x3 : Int32) : Option ((Int32 × Int32) ⊕ Int32) := if (st.1 22 3) ≤ x3 then some (.inr x2) else (xo_rd (st.1 26) 15 x3).bind fun v1 => (xo_rd (st.1 27) 15 x3).bind fun v2 => if (x1 &&& (v1 ^^^ (-1 : Int32))) = v2 then xo_nm (x2 + (1 : Int32)) fun v3 => xo_nm (x3 + (1 : Int32)) fun v4 => some (.inl (v3, v4)) else xo_nm (x3 + (1 : Int32)) fun v5 => some (.inl (x2, v5))
def F_Pla_cornersOf (x1 : Int32) (st : XS) : Option Int32 := (xo_lp (fun q : (Int32 × Int32) => F_Pla_cornersOf_b4 x1 st q.1 q.2) 1000000 ((0 : Int32), (0 : Int32))).bind (fun o6 => some o6)
def F_All_with_b28 (x1 : Int32) (st : XS) (x2 : Int32) (x3 : Int32) : Option ((Int32 × Int32) ⊕ Int32) := if (64 : Int32) ≤ x3 then some (.inr x2) else (F_Pla_hasQuarter x3 st).bind fun v1 => if v1 = (0 : Int32) then xo_nm (x3 + (1 : Int32)) fun v2 => some (.inl (x2, v2)) else (F_Pla_cornersOf x3 st).bind fun v3 => if v3 = x1 then xo_nm (x2 + (1 : Int32)) fun v4 => xo_nm (x3 + (1 : Int32)) fun v5 => some (.inl (v4, v5)) else xo_nm (x3 + (1 : Int32)) fun v6 => some (.inl (x2, v6))
def F_All_with (x1 : Int32) (st : XS) : Option (Int32 × XS) := if (0 : Int32) ≤ x1 then if x1 ≤ (12 : Int32) then (xo_lp (fun q : (Int32 × Int32) => F_All_with_b28 x1 st q.1 q.2) 1000000 ((0 : Int32), (0 : Int32))).bind (fun o7 => some (o7, st)) else xo_bn (F_All_refuse (-6 : Int32) st) fun v8 t9 => some (v8, t9) else xo_bn (F_All_refuse (-4 : Int32) st) fun v10 t11 => some (v10, t11)
def F_All_corners (x1 : Int32) (st : XS) : Option (Int32 × XS) := (F_Pla_hasQuarter x1 st).bind fun v1 => if v1 = (0 : Int32) then xo_bn (F_All_refuse (-1 : Int32) st) fun v2 t3 => some (v2, t3) else (F_Pla_cornersOf x1 st).bind fun v4 => some (v4, st)
def F_Pla_sidesOf_b4 (x1 : Int32) (st : XS) (x2 : Int32) (x3 : Int32) : Option ((Int32 × Int32) ⊕ Int32) := if (st.1 1 4) ≤ x3 then some (.inr x2) else (F_Pla_hasQuarter (x1 ^^^ ((1 : Int32) <<< (x3 &&& 31))) st).bind fun v1 => if v1 = (0 : Int32) then xo_nm (x3 + (1 : Int32)) fun v2 => some (.inl (x2, v2)) else xo_nm (x2 + (1 : Int32)) fun v3 => xo_nm (x3 + (1 : Int32)) fun v4 => some (.inl (v3, v4))
def F_Pla_sidesOf (x1 : Int32) (st : XS) : Option Int32 := (xo_lp (fun q : (Int32 × Int32) => F_Pla_sidesOf_b4 x1 st q.1 q.2) 1000000 ((0 : Int32), (0 : Int32))).bind (fun o5 => some o5)
def F_All_sides (x1 : Int32) (st : XS) : Option (Int32 × XS) := (F_Pla_hasQuarter x1 st).bind fun v1 => if v1 = (0 : Int32) then xo_bn (F_All_refuse (-1 : Int32) st) fun v2 t3 => some (v2, t3) else (F_Pla_sidesOf x1 st).bind fun v4 => some (v4, st)
def F_All_isOpen (x1 : Int32) (st : XS) : Option (Int32 × XS) := (F_Pla_hasQuarter x1 st).bind fun v1 => if v1 = (0 : Int32) then xo_bn (F_All_refuse (-1 : Int32) st) fun v2 t3 => some (v2, t3) else (F_All_has (st.2 1) x1).bind fun v4 => if v4 = (0 : Int32) then some ((0 : Int32), st) else some ((1 : Int32), st)
def F_All_whole_b4 (st : XS) (x1 : Int32) (x2 : Int32) : Option ((Int32 × Int32) ⊕ Int32) := if (64 : Int32) ≤ x2 then some (.inr x1) else (F_Pla_hasQuarter x2 st).bind fun v1 => if v1 = (0 : Int32) then xo_nm (x2 + (1 : Int32)) fun v2 => some (.inl (x1, v2)) else (F_Pla_sidesOf x2 st).bind fun v3 => if v3 = (st.1 1 4) then xo_nm (x1 + (1 : Int32)) fun v4 => xo_nm (x2 + (1 : Int32)) fun v5 => some (.inl (v4, v5)) else xo_nm (x2 + (1 : Int32)) fun v6 => some (.inl (x1, v6))
def F_All_whole (st : XS) : Option Int32 := (xo_lp (fun q : (Int32 × Int32) => F_All_whole_b4 st q.1 q.2) 1000000 ((0 : Int32), (0 : Int32))).bind (fun o7 => some o7)
def F_Pla_squares_b4 (st : XS) (x1 : Int32) (x2 : Int32) : Option ((Int32 × Int32) ⊕ Int32) := if (st.1 22 3) ≤ x2 then some (.inr x1) else (F_Pla_isSquare x2 st).bind fun v1 => if v1 = (0 : Int32) then xo_nm (x2 + (1 : Int32)) fun v2 => some (.inl (x1, v2)) else xo_nm (x1 + (1 : Int32)) fun v3 => xo_nm (x2 + (1 : Int32)) fun v4 => some (.inl (v3, v4))
def F_Pla_squares (st : XS) : Option Int32 := (xo_lp (fun q : (Int32 × Int32) => F_Pla_squares_b4 st q.1 q.2) 1000000 ((0 : Int32), (0 : Int32))).bind (fun o5 => some o5)
def F_Pla_mostMeeting_b4 (st : XS) (x1 : Int32) (x2 : Int32) : Option ((Int32 × Int32) ⊕ Int32) := if (st.1 22 3) ≤ x2 then some (.inr x1) else (xo_rd (st.1 26) 15 x2).bind fun v1 => (F_Int_bitCount v1).bind fun v2 => xo_nm ((if x1 < v2 then v2 else x1)) fun v3 => xo_nm (x2 + (1 : Int32)) fun v4 => some (.inl (v3, v4))
def F_Pla_mostMeeting (st : XS) : Option Int32 := (xo_lp (fun q : (Int32 × Int32) => F_Pla_mostMeeting_b4 st q.1 q.2) 1000000 ((0 : Int32), (0 : Int32))).bind (fun o5 => some o5)
def F_All_points (x1 : Int32) (st : XS) : Option (Int32 × XS) := if x1 = (0 : Int32) then some ((st.1 22 3), st) else if x1 = (1 : Int32) then (F_Pla_squares st).bind fun v1 => some (v1, st) else if x1 = (2 : Int32) then (F_Pla_mostMeeting st).bind fun v2 => some (v2, st) else xo_bn (F_All_refuse (-2 : Int32) st) fun v3 t4 => some (v3, t4)
def F_All_lamps_b4 (st : XS) (x1 : Int32) (x2 : Int32) : Option ((Int32 × Int32) ⊕ Int32) := if (st.1 1 4) ≤ x2 then some (.inr x1) else (F_Pla_lampsFrom x2 st).bind fun v1 => xo_nm ((x1 + v1)) fun v2 => xo_nm (x2 + (1 : Int32)) fun v3 => some (.inl (v2, v3))
def F_All_lamps (st : XS) : Option Int32 := (xo_lp (fun q : (Int32 × Int32) => F_All_lamps_b4 st q.1 q.2) 1000000 ((0 : Int32), (0 : Int32))).bind (fun o4 => some o4)
def F_Pla_quarterAt (x1 : Int32) (x2 : Int32) (st : XS) : Option Int32 := (F_Pla_streetsThrough x1 x2 (1 : Int32) st).bind fun v1 => if v1 = (0 : Int32) then (F_Pla_sidesOfPoint x1 x2 (1 : Int32) st).bind fun v2 => some v2 else some (-9 : Int32)
def F_Pla_quarterOfPlot (x1 : Int32) (st : XS) : Option Int32 := (F_Tow_hasPlot x1 st).bind fun v1 => if v1 = (0 : Int32) then some (-9 : Int32) else (xo_rd (st.1 6) 8 x1).bind fun v2 => (xo_rd (st.1 7) 8 x1).bind fun v3 => (F_Pla_quarterAt v2 v3 st).bind fun v4 => some v4
def F_All_where (x1 : Int32) (st : XS) : Option (Int32 × XS) := (F_Tow_hasPlot x1 st).bind fun v1 => if v1 = (0 : Int32) then xo_bn (F_All_refuse (-1 : Int32) st) fun v2 t3 => some (v2, t3) else (F_Pla_quarterOfPlot x1 st).bind fun v4 => some (v4, st)
def F_All_together_b31 (x2 : Int32) (st : XS) (x3 : Int32) (x4 : Int32) : Option ((Int32 × Int32) ⊕ Int32) := if (st.1 1 7) ≤ x4 then some (.inr x3) else if x2 = (-9 : Int32) then xo_nm (x4 + (1 : Int32)) fun v1 => some (.inl (x3, v1)) else (F_Pla_quarterOfPlot x4 st).bind fun v2 => if v2 = x2 then xo_nm ((x3 ||| ((1 : Int32) <<< (x4 &&& 31)))) fun v3 => xo_nm (x4 + (1 : Int32)) fun v4 => some (.inl (v3, v4)) else xo_nm (x4 + (1 : Int32)) fun v5 => some (.inl (x3, v5))
def F_All_together (x1 : Int32) (st : XS) : Option (Int32 × XS) := (F_Tow_hasPlot x1 st).bind fun v6 => if v6 = (0 : Int32) then xo_bn (F_All_refuse (-1 : Int32) st) fun v7 t8 => some (v7, t8) else (F_Pla_quarterOfPlot x1 st).bind fun v9 => (xo_lp (fun q : (Int32 × Int32) => F_All_together_b31 v9 st q.1 q.2) 1000000 ((0 : Int32), (0 : Int32))).bind (fun o10 => some (o10, st))
def F_All_steps_m22  (st : XS) : Option (Int32 × XS) := xo_bn (F_All_refuse (-1 : Int32) st) fun v1 t2 => some (v1, t2)
def F_All_steps (x1 : Int32) (x2 : Int32) (st : XS) : Option (Int32 × XS) := (F_Tow_hasPlot x1 st).bind fun v3 => if v3 = (0 : Int32) then F_All_steps_m22 st else (F_Tow_hasPlot x2 st).bind fun v4 => if v4 = (0 : Int32) then F_All_steps_m22 st else (F_Pla_quarterOfPlot x1 st).bind fun v5 => (F_Pla_quarterOfPlot x2 st).bind fun v6 => if v5 = (-9 : Int32) then some ((-9 : Int32), st) else if v6 = (-9 : Int32) then some ((-9 : Int32), st) else (F_Int_bitCount (v5 ^^^ v6)).bind fun v7 => some (v7, st)
def F_All_whyNoLine (x1 : Int32) (x2 : Int32) (x3 : Int32) : Option Int32 := if x1 < (-9 : Int32) then some (-4 : Int32) else if x2 < (-9 : Int32) then some (-4 : Int32) else if (-99 : Int32) ≤ x3 then if (9 : Int32) < x1 then some (-6 : Int32) else if (9 : Int32) < x2 then some (-6 : Int32) else if x3 ≤ (99 : Int32) then if x1 = (0 : Int32) then if x2 = (0 : Int32) then some (-3 : Int32) else some (0 : Int32) else some (0 : Int32) else some (-6 : Int32) else some (-4 : Int32)
def F_Tow_hasDirection_v1_b2 (x1 : Int32) (x2 : Int32) (st : XS) (x3 : Int32) : Option (Int32 ⊕ (Unit ⊕ Unit)) := if (st.1 1 4) ≤ x3 then some (.inr (.inr ())) else (F_Tow_turn x1 x2 x3 st).bind fun v1 => if v1 = (0 : Int32) then some (.inr (.inl ())) else xo_nm (x3 + (1 : Int32)) fun v2 => some (.inl v2)
def F_Tow_hasDirection_v1 (x1 : Int32) (x2 : Int32) (st : XS) : Option Int32 := (xo_lp (fun q : Int32 => F_Tow_hasDirection_v1_b2 x1 x2 st q) 1000000 (0 : Int32)).bind (Sum.elim (fun _ => some (1 : Int32)) (fun _ => some (0 : Int32)))
def F_All_whyNoNewLine (x1 : Int32) (x2 : Int32) (x3 : Int32) (st : XS) : Option Int32 := (F_All_whyNoLine x1 x2 x3).bind fun v1 => if v1 = (0 : Int32) then (F_Tow_hasDirection_v1 x1 x2 st).bind fun v2 => if v2 = (0 : Int32) then some v1 else some (-3 : Int32) else some v1
def F_All_next_m24 (x1 : Int32) (x2 : Int32) (x3 : Int32) (x4 : Int32) (st : XS) : Option (Int32 × XS) := (F_All_whyNoNewLine x1 x2 x3 st).bind fun v1 => if v1 = (0 : Int32) then if x4 = (-1 : Int32) then (F_Pla_cutBy x1 x2 x3 st).bind fun v2 => (F_Lng_bitCount v2).bind fun v3 => some (v3, st) else (F_Pla_quarterOfPlot x4 st).bind fun v4 => if v4 = (-9 : Int32) then some ((-9 : Int32), st) else (F_Pla_cutBy x1 x2 x3 st).bind fun v5 => (F_All_has v5 v4).bind fun v6 => if v6 = (0 : Int32) then some ((0 : Int32), st) else some ((1 : Int32), st) else xo_bn (F_All_refuse v1 st) fun v7 t8 => some (v7, t8)
def F_All_next (x1 : Int32) (x2 : Int32) (x3 : Int32) (x4 : Int32) (st : XS) : Option (Int32 × XS) := if x4 = (-1 : Int32) then F_All_next_m24 x1 x2 x3 x4 st else (F_Tow_hasPlot x4 st).bind fun v9 => if v9 = (0 : Int32) then xo_bn (F_All_refuse (-1 : Int32) st) fun v10 t11 => some (v10, t11) else F_All_next_m24 x1 x2 x3 x4 st
def F_All_through (x1 : Int32) (x2 : Int32) (x3 : Int32) (st : XS) : Option (Int32 × XS) := (F_Tow_hasPlot x3 st).bind fun v1 => if v1 = (0 : Int32) then xo_bn (F_All_refuseFar (-1 : Int32) st) fun v2 t3 => some (v2, t3) else (F_All_whyNoLine x1 x2 (0 : Int32)).bind fun v4 => if v4 = (0 : Int32) then (xo_rd (st.1 6) 8 x3).bind fun v5 => (xo_rd (st.1 7) 8 x3).bind fun v6 => some (((x1 * v5) + (x2 * v6)), st) else xo_bn (F_All_refuseFar v4 st) fun v7 t8 => some (v7, t8)
def F_Pla_quartersWithPlots_b4 (st : XS) (x1 : Int64) (x3 : Int32) : Option ((Int64 × Int32) ⊕ Int64) := if (st.1 1 7) ≤ x3 then some (.inr x1) else (F_Pla_quarterOfPlot x3 st).bind fun v1 => if v1 = (-9 : Int32) then xo_nm (x3 + (1 : Int32)) fun v2 => some (.inl (x1, v2)) else xo_nm ((x1 ||| ((1 : Int64) <<< (v1.toInt64 &&& 63)))) fun v3 => xo_nm (x3 + (1 : Int32)) fun v4 => some (.inl (v3, v4))
def F_Pla_quartersWithPlots (st : XS) : Option Int64 := (xo_lp (fun q : (Int64 × Int32) => F_Pla_quartersWithPlots_b4 st q.1 q.2) 1000000 ((0 : Int64), (0 : Int32))).bind (fun o5 => some o5)
def F_Tow_hasPlotOn_b3 (x1 : Int32) (x2 : Int32) (x3 : Int32) (st : XS) (x4 : Int32) : Option (Int32 ⊕ (Unit ⊕ Unit)) := if (st.1 1 7) ≤ x4 then some (.inr (.inr ())) else (xo_rd (st.1 6) 8 x4).bind fun v1 => (xo_rd (st.1 7) 8 x4).bind fun v2 => if ((x1 * v1) + (x2 * v2)) = x3 then some (.inr (.inl ())) else xo_nm (x4 + (1 : Int32)) fun v3 => some (.inl v3)
def F_Tow_hasPlotOn (x1 : Int32) (x2 : Int32) (x3 : Int32) (st : XS) : Option Int32 := (xo_lp (fun q : Int32 => F_Tow_hasPlotOn_b3 x1 x2 x3 st q) 1000000 (0 : Int32)).bind (Sum.elim (fun _ => some (1 : Int32)) (fun _ => some (0 : Int32)))
def F_All_spare_b31 (x1 : Int32) (x2 : Int32) (x4 : Int64) (st : XS) (x6 : Int32) : Option (Int32 ⊕ (Int32 ⊕ Unit)) := if (99 : Int32) < x6 then some (.inr (.inr ())) else (F_Tow_hasPlotOn x1 x2 x6 st).bind fun v1 => if v1 = (0 : Int32) then (F_Pla_cutBy x1 x2 x6 st).bind fun v2 => if (lg_cmp (v2 &&& x4) (0 : Int64)) = (0 : Int32) then some (.inr (.inl x6)) else xo_nm (x6 + (1 : Int32)) fun v3 => some (.inl v3) else xo_nm (x6 + (1 : Int32)) fun v4 => some (.inl v4)
def F_All_spare (x1 : Int32) (x2 : Int32) (st : XS) : Option (Int32 × XS) := (F_All_whyNoNewLine x1 x2 (0 : Int32) st).bind fun v5 => if v5 = (0 : Int32) then (F_Pla_quartersWithPlots st).bind fun v6 => (xo_lp (fun q : Int32 => F_All_spare_b31 x1 x2 v6 st q) 1000000 (-99 : Int32)).bind (Sum.elim (fun o7 => some (o7, st)) (fun _ => some ((-999 : Int32), st))) else xo_bn (F_All_refuseFar v5 st) fun v8 t9 => some (v8, t9)
def F_Pla_pointsOn_b6 (x1 : Int32) (x2 : Int32) (x3 : Int32) (st : XS) (x4 : Int32) (x5 : Int32) : Option ((Int32 × Int32) ⊕ Int32) := if (st.1 22 3) ≤ x5 then some (.inr x4) else (xo_rd (st.1 23) 15 x5).bind fun v1 => (xo_rd (st.1 24) 15 x5).bind fun v2 => (xo_rd (st.1 25) 15 x5).bind fun v3 => if ((x1 * v1) + (x2 * v2)) = (x3 * v3) then xo_nm (x4 + (1 : Int32)) fun v4 => xo_nm (x5 + (1 : Int32)) fun v5 => some (.inl (v4, v5)) else xo_nm (x5 + (1 : Int32)) fun v6 => some (.inl (x4, v6))
def F_Pla_pointsOn (x1 : Int32) (x2 : Int32) (x3 : Int32) (st : XS) : Option Int32 := (xo_lp (fun q : (Int32 × Int32) => F_Pla_pointsOn_b6 x1 x2 x3 st q.1 q.2) 1000000 ((0 : Int32), (0 : Int32))).bind (fun o7 => some o7)
def F_All_most_b25 (x1 : Int32) (x2 : Int32) (st : XS) (x4 : Int32) (x5 : Int32) : Option ((Int32 × Int32) ⊕ Int32) := if (99 : Int32) < x5 then some (.inr x4) else (F_Pla_pointsOn x1 x2 x5 st).bind fun v1 => xo_nm ((if x4 < v1 then v1 else x4)) fun v2 => xo_nm (x5 + (1 : Int32)) fun v3 => some (.inl (v2, v3))
def F_All_most (x1 : Int32) (x2 : Int32) (st : XS) : Option (Int32 × XS) := (F_All_whyNoNewLine x1 x2 (0 : Int32) st).bind fun v4 => if v4 = (0 : Int32) then (xo_lp (fun q : (Int32 × Int32) => F_All_most_b25 x1 x2 st q.1 q.2) 1000000 ((0 : Int32), (-99 : Int32))).bind (fun o5 => some (o5, st)) else xo_bn (F_All_refuse v4 st) fun v6 t7 => some (v6, t7)
def F_All_fearedLines_b7 (x1 : Int32) (x2 : Int32) (x3 : Int32) (st : XS) (x4 : Int32) (x5 : Int32) : Option ((Int32 × Int32) ⊕ Int32) := if (9 : Int32) < x5 then some (.inr x4) else (F_Pla_cutBy x1 x2 x5 st).bind fun v1 => (F_All_has v1 x3).bind fun v2 => if v2 = (0 : Int32) then xo_nm (x5 + (1 : Int32)) fun v3 => some (.inl (x4, v3)) else xo_nm (x4 + (1 : Int32)) fun v4 => xo_nm (x5 + (1 : Int32)) fun v5 => some (.inl (v4, v5))
def F_All_fearedLines (x1 : Int32) (x2 : Int32) (x3 : Int32) (st : XS) : Option Int32 := (xo_lp (fun q : (Int32 × Int32) => F_All_fearedLines_b7 x1 x2 x3 st q.1 q.2) 1000000 ((0 : Int32), (-9 : Int32))).bind (fun o6 => some o6)
def F_All_fear_b74 (x2 : Int32) (x3 : Int32) (x6 : Int32) (st : XS) (x4 : Int32) (x5 : Int32) (x7 : Int32) : Option ((Int32 × Int32 × Int32) ⊕ (Int32 × Int32)) := if (2 : Int32) < x7 then some (.inr (x4, x5)) else (F_All_whyNoNewLine x6 x7 (0 : Int32) st).bind fun v1 => if v1 = (0 : Int32) then xo_nm (x4 + (19 : Int32)) fun v2 => if x2 = (0 : Int32) then (F_All_fearedLines x6 x7 x3 st).bind fun v3 => xo_nm ((x5 + v3)) fun v4 => xo_nm (x7 + (1 : Int32)) fun v5 => some (.inl (v2, v4, v5)) else xo_nm ((x5 + (0 : Int32))) fun v6 => xo_nm (x7 + (1 : Int32)) fun v7 => some (.inl (v2, v6, v7)) else xo_nm (x7 + (1 : Int32)) fun v8 => some (.inl (x4, x5, v8))
def F_All_fear_b64 (x2 : Int32) (x3 : Int32) (st : XS) (x4 : Int32) (x5 : Int32) (x6 : Int32) : Option ((Int32 × Int32 × Int32) ⊕ (Int32 × Int32)) := if (2 : Int32) < x6 then some (.inr (x4, x5)) else (xo_lp (fun q : (Int32 × Int32 × Int32) => F_All_fear_b74 x2 x3 x6 st q.1 q.2.1 q.2.2) 1000000 (x4, x5, (-2 : Int32))).bind (xo_u2 fun o9 o10 => xo_nm (x6 + (1 : Int32)) fun v11 => some (.inl (o9, o10, v11)))
def F_All_fear_m55 (x2 : Int32) (x3 : Int32) (st : XS) : Option (Int32 × XS) := (xo_lp (fun q : (Int32 × Int32 × Int32) => F_All_fear_b64 x2 x3 st q.1 q.2.1 q.2.2) 1000000 ((0 : Int32), (0 : Int32), (0 : Int32))).bind (xo_u2 fun o12 o13 => if x2 = (0 : Int32) then some (o13, st) else some (o12, st))
def F_All_fear_m33 (x1 : Int32) (x2 : Int32) (st : XS) : Option (Int32 × XS) := (F_Pla_quarterOfPlot x1 st).bind fun v14 => if x2 = (0 : Int32) then if v14 = (-9 : Int32) then some ((-9 : Int32), st) else F_All_fear_m55 x2 v14 st else F_All_fear_m55 x2 v14 st
def F_All_fear (x1 : Int32) (x2 : Int32) (st : XS) : Option (Int32 × XS) := (F_Tow_hasPlot x1 st).bind fun v15 => if v15 = (0 : Int32) then xo_bn (F_All_refuse (-1 : Int32) st) fun v16 t17 => some (v16, t17) else if x2 = (0 : Int32) then F_All_fear_m33 x1 x2 st else if x2 = (1 : Int32) then F_All_fear_m33 x1 x2 st else xo_bn (F_All_refuse (-2 : Int32) st) fun v18 t19 => some (v18, t19)
def F_Pla_quartersWithout_b5 (x1 : Int32) (st : XS) (x2 : Int64) (x4 : Int32) : Option ((Int64 × Int32) ⊕ Int64) := if (64 : Int32) ≤ x4 then some (.inr x2) else (F_Pla_hasQuarter x4 st).bind fun v1 => if v1 = (0 : Int32) then xo_nm (x4 + (1 : Int32)) fun v2 => some (.inl (x2, v2)) else xo_nm ((x2 ||| ((1 : Int64) <<< ((x4 &&& (((1 : Int32) <<< (x1 &&& 31)) ^^^ (-1 : Int32))).toInt64 &&& 63)))) fun v3 => xo_nm (x4 + (1 : Int32)) fun v4 => some (.inl (v3, v4))
def F_Pla_quartersWithout (x1 : Int32) (st : XS) : Option Int32 := (xo_lp (fun q : (Int64 × Int32) => F_Pla_quartersWithout_b5 x1 st q.1 q.2) 1000000 ((0 : Int64), (0 : Int32))).bind (fun o5 => (F_Lng_bitCount o5).bind fun v6 => some v6)
def F_All_dearestStreet_b8 (st : XS) (x1 : Int32) (x2 : Int32) (x3 : Int32) : Option ((Int32 × Int32 × Int32) ⊕ Int32) := if (st.1 1 4) ≤ x3 then some (.inr x1) else (F_Pla_quartersWithout x3 st).bind fun v1 => if x2 ≤ v1 then xo_nm (x3 + (1 : Int32)) fun v2 => some (.inl (x1, x2, v2)) else xo_nm (x3 + (1 : Int32)) fun v3 => some (.inl (x3, v1, v3))
def F_All_dearestStreet (st : XS) : Option Int32 := (xo_lp (fun q : (Int32 × Int32 × Int32) => F_All_dearestStreet_b8 st q.1 q.2.1 q.2.2) 1000000 ((-9 : Int32), (65 : Int32), (0 : Int32))).bind (fun o4 => some o4)
def F_All_taken (x1 : Int32) (st : XS) : Option (Int32 × XS) := if x1 = (-1 : Int32) then (F_All_dearestStreet st).bind fun v1 => some (v1, st) else (F_Tow_hasStreet x1 st).bind fun v2 => if v2 = (0 : Int32) then xo_bn (F_All_refuse (-1 : Int32) st) fun v3 t4 => some (v3, t4) else (F_Pla_quartersWithout x1 st).bind fun v5 => some (v5, st)
def F_All_row_m29  (st : XS) : Option (Int32 × XS) := xo_bn (F_All_refuse (-6 : Int32) st) fun v1 t2 => some (v1, t2)
def F_All_row (x1 : Int32) (st : XS) : Option (Int32 × XS) := if (0 : Int32) ≤ x1 then if (64 : Int32) ≤ x1 then F_All_row_m29 st else if (st.1 0 7) < (12 : Int32) then (xo_ck 12 (st.1 0 7)).bind fun _ => xo_nm (xs_A st 31 (upd (st.1 31) ((st.1 0 7)).toNatClampNeg x1)) fun t3 => xo_nm (xs_I t3 0 7 ((t3.1 0 7) + (1 : Int32))) fun t4 => some ((t4.1 0 7), t4) else F_All_row_m29 st else xo_bn (F_All_refuse (-4 : Int32) st) fun v5 t6 => some (v5, t6)
def F_All_judge_b12 (x1 : Int32) (st : XS) (x2 : Int32) : Option (Int32 ⊕ (Int32 ⊕ Int32 ⊕ Unit)) := if x1 ≤ x2 then some (.inr (.inr (.inr ()))) else (xo_rd (st.1 31) 12 x2).bind fun v1 => (F_Pla_hasQuarter v1 st).bind fun v2 => if v2 = (0 : Int32) then some (.inr (.inl x2)) else if x2 ≤ (0 : Int32) then xo_nm (x2 + (1 : Int32)) fun v3 => some (.inl v3) else (xo_rd (st.1 31) 12 x2).bind fun v4 => (xo_rd (st.1 31) 12 (x2 - (1 : Int32))).bind fun v5 => (F_Int_bitCount (v4 ^^^ v5)).bind fun v6 => if v6 = (1 : Int32) then xo_nm (x2 + (1 : Int32)) fun v7 => some (.inl v7) else some (.inr (.inr (.inl x2)))
def F_All_judge (st : XS) : Option (Int32 × XS) := xo_nm ((st.1 0 7)) fun v8 => xo_nm (xs_I st 0 7 (0 : Int32)) fun t9 => (xo_lp (fun q : Int32 => F_All_judge_b12 v8 t9 q) 1000000 (0 : Int32)).bind (Sum.elim (fun o10 => some (o10, t9)) (Sum.elim (fun o11 => some (o11, t9)) (fun _ => some ((-9 : Int32), t9))))
def F_All_seedAfter (x0 : Int32) : Option Int32 := some ((x0 * (1664525 : Int32)) + (1013904223 : Int32))
def F_All_placeDrawn (x0 : Int32) : Option Int32 := (xo_dv (x0 &&& (2147483647 : Int32)) (256 : Int32)).bind fun v1 => (xo_rm v1 (41 : Int32)).bind fun v2 => some (v2 - (20 : Int32))
def F_All_seeds_b33 (x1 : Int32) (st : XS) (x3 : Int32) (x4 : Int64) (x6 : Int32) : Option ((Int32 × Int64 × Int32) ⊕ Int64) := if x1 ≤ x6 then some (.inr x4) else (F_All_seedAfter x3).bind fun v1 => (F_All_placeDrawn v1).bind fun v2 => (F_All_seedAfter v1).bind fun v3 => (F_All_placeDrawn v3).bind fun v4 => (F_Pla_quarterAt v2 v4 st).bind fun v5 => if v5 = (-9 : Int32) then xo_nm (x6 + (1 : Int32)) fun v6 => some (.inl (v3, x4, v6)) else xo_nm ((x4 ||| ((1 : Int64) <<< (v5.toInt64 &&& 63)))) fun v7 => xo_nm (x6 + (1 : Int32)) fun v8 => some (.inl (v3, v7, v8))
def F_All_seeds (x1 : Int32) (x2 : Int32) (st : XS) : Option (Int32 × XS) := if (1 : Int32) ≤ x1 then if x1 ≤ (30 : Int32) then (xo_lp (fun q : (Int32 × Int64 × Int32) => F_All_seeds_b33 x1 st q.1 q.2.1 q.2.2) 1000000 (x2, (0 : Int64), (0 : Int32))).bind (fun o9 => (F_Lng_bitCount o9).bind fun v10 => some (v10, st)) else xo_bn (F_All_refuse (-6 : Int32) st) fun v11 t12 => some (v11, t12) else xo_bn (F_All_refuse (-4 : Int32) st) fun v13 t14 => some (v13, t14)
def F_Tow_copyFrom_v2 (st : XS) : Option XS := xo_nm (xs_A st 16 (va_cpy (st.1 2) (st.1 16) 0 0 6)) fun t1 => xo_nm (xs_A t1 17 (va_cpy (t1.1 3) (t1.1 17) 0 0 6)) fun t2 => xo_nm (xs_A t2 18 (va_cpy (t2.1 4) (t2.1 18) 0 0 6)) fun t3 => xo_nm (xs_A t3 19 (va_cpy (t3.1 5) (t3.1 19) 0 0 6)) fun t4 => xo_nm (xs_I t4 15 4 (t4.1 1 4)) fun t5 => xo_nm (xs_A t5 20 (va_cpy (t5.1 6) (t5.1 20) 0 0 8)) fun t6 => xo_nm (xs_A t6 21 (va_cpy (t6.1 7) (t6.1 21) 0 0 8)) fun t7 => xo_nm (xs_I t7 15 7 (t7.1 1 7)) fun t8 => some t8
def F_All_image (st : XS) : Option (Int32 × XS) := (F_Tow_copyFrom_v2 st).bind fun t1 => xo_nm (xs_I t1 0 3 (1 : Int32)) fun t2 => some ((t2.1 1 4), t2)
def F_Tow_copyFrom_v3 (st : XS) : Option XS := xo_nm (xs_A st 2 (va_cpy (st.1 16) (st.1 2) 0 0 6)) fun t1 => xo_nm (xs_A t1 3 (va_cpy (t1.1 17) (t1.1 3) 0 0 6)) fun t2 => xo_nm (xs_A t2 4 (va_cpy (t2.1 18) (t2.1 4) 0 0 6)) fun t3 => xo_nm (xs_A t3 5 (va_cpy (t3.1 19) (t3.1 5) 0 0 6)) fun t4 => xo_nm (xs_I t4 1 4 (t4.1 15 4)) fun t5 => xo_nm (xs_A t5 6 (va_cpy (t5.1 20) (t5.1 6) 0 0 8)) fun t6 => xo_nm (xs_A t6 7 (va_cpy (t6.1 21) (t6.1 7) 0 0 8)) fun t7 => xo_nm (xs_I t7 1 7 (t7.1 15 7)) fun t8 => some t8
def F_All_on (st : XS) : Option (Int32 × XS) := if (st.1 0 3) = (0 : Int32) then xo_bn (F_All_refuse (-3 : Int32) st) fun v1 t2 => some (v1, t2) else (F_Tow_copyFrom_v3 st).bind fun t3 => (F_Pla_measure t3).bind fun t4 => some ((t4.1 1 4), t4)
def F_All_count (x1 : Int32) (st : XS) : Option Int32 := if x1 = (0 : Int32) then some (st.1 1 4) else if x1 = (1 : Int32) then some (st.1 1 7) else if x1 = (2 : Int32) then some (st.1 0 7) else if x1 = (3 : Int32) then some (st.1 28 1) else if x1 < (11 : Int32) then some (-9 : Int32) else if (16 : Int32) < x1 then some (-9 : Int32) else (xo_rd (st.1 32) 7 (x1 - (10 : Int32))).bind fun v1 => some v1
def F_Mod_no (x1 : Int32) (st : XS) : Option (Int32 × XS) := (xo_rd (st.1 14) 7 (-x1)).bind fun v1 => (xo_ck 7 (-x1)).bind fun _ => xo_nm (xs_A st 14 (upd (st.1 14) ((-x1)).toNatClampNeg (v1 + (1 : Int32)))) fun t2 => some (x1, t2)
def F_Mod_letter_m27  (st : XS) : Option (Int32 × XS) := xo_bn (F_Mod_no (-6 : Int32) st) fun v1 t2 => some (v1, t2)
def F_Mod_letter (x1 : Int32) (st : XS) : Option (Int32 × XS) := if (0 : Int32) ≤ x1 then if (255 : Int32) < x1 then F_Mod_letter_m27 st else if (st.1 0 8) = (96 : Int32) then F_Mod_letter_m27 st else xo_nm (xs_I st 0 8 ((st.1 0 8) + (1 : Int32))) fun t3 => (xo_ck 96 (st.1 0 8)).bind fun _ => xo_nm (xs_A t3 9 (upd (t3.1 9) ((st.1 0 8)).toNatClampNeg x1)) fun t4 => some ((t4.1 0 8), t4) else xo_bn (F_Mod_no (-4 : Int32) st) fun v5 t6 => some (v5, t6)
def F_Mod_is (x1 : Int32) (st : XS) : Option (Int32 × XS) := if (st.1 0 10) = (st.1 0 8) then some ((0 : Int32), st) else (xo_rd (st.1 9) 96 (st.1 0 10)).bind fun v1 => if v1 = x1 then xo_nm (xs_I st 0 10 ((st.1 0 10) + (1 : Int32))) fun t2 => some ((1 : Int32), t2) else some ((0 : Int32), st)
def F_Mod_isDigit (st : XS) : Option Int32 := if (st.1 0 8) ≤ (st.1 0 10) then some (0 : Int32) else (xo_rd (st.1 9) 96 (st.1 0 10)).bind fun v1 => if v1 < (48 : Int32) then some (0 : Int32) else (xo_rd (st.1 9) 96 (st.1 0 10)).bind fun v2 => if (57 : Int32) < v2 then some (0 : Int32) else some (1 : Int32)
def F_Mod_number_m88 (x1 : Int32) (x3 : Int32) (x4 : Int32) (st : XS) : Option (Int32 × XS) := if x3 = (0 : Int32) then (xo_ck 3 x1).bind fun _ => xo_nm (xs_A st 11 (upd (st.1 11) (x1).toNatClampNeg x4)) fun t1 => some ((1 : Int32), t1) else (xo_ck 3 x1).bind fun _ => xo_nm (xs_A st 11 (upd (st.1 11) (x1).toNatClampNeg (-x4))) fun t2 => some ((1 : Int32), t2)
def F_Mod_number_m20 (x1 : Int32) (x2 : Int32) (x3 : Int32) (st : XS) : Option (Int32 × XS) := (F_Mod_isDigit st).bind fun v3 => if v3 = (0 : Int32) then some ((0 : Int32), st) else xo_nm (xs_I st 0 10 ((st.1 0 10) + (1 : Int32))) fun t4 => (xo_rd (t4.1 9) 96 (st.1 0 10)).bind fun v5 => xo_nm ((v5 - (48 : Int32))) fun v6 => if x2 = (0 : Int32) then F_Mod_number_m88 x1 x3 v6 t4 else (F_Mod_isDigit t4).bind fun v7 => if v7 = (0 : Int32) then F_Mod_number_m88 x1 x3 v6 t4 else xo_nm (xs_I t4 0 10 ((t4.1 0 10) + (1 : Int32))) fun t8 => (xo_rd (t8.1 9) 96 (t4.1 0 10)).bind fun v9 => xo_nm (((((10 : Int32) * v6) + v9) - (48 : Int32))) fun v10 => F_Mod_number_m88 x1 x3 v10 t8
def F_Mod_number (x1 : Int32) (x2 : Int32) (st : XS) : Option (Int32 × XS) := xo_bn (F_Mod_is (45 : Int32) st) fun v11 t12 => if v11 = (0 : Int32) then xo_bn (F_Mod_is (43 : Int32) t12) fun v13 t14 => if v13 = (0 : Int32) then some ((0 : Int32), t14) else F_Mod_number_m20 x1 x2 v11 t14 else F_Mod_number_m20 x1 x2 v11 t12
def F_Mod_within (x0 : Int32) (x1 : Int32) (x2 : Int32) : Option Int32 := if x0 < x1 then some (0 : Int32) else if x2 < x0 then some (0 : Int32) else some (1 : Int32)
def F_Mod_isDirection_b3 (x1 : Int32) (x2 : Int32) (x3 : Int32) (st : XS) (x4 : Int32) : Option (Int32 ⊕ (Unit ⊕ Unit)) := if x3 ≤ x4 then some (.inr (.inr ())) else (xo_rd (st.1 2) 7 x4).bind fun v1 => (xo_rd (st.1 3) 7 x4).bind fun v2 => if (v1 * x2) = (x1 * v2) then some (.inr (.inl ())) else xo_nm (x4 + (1 : Int32)) fun v3 => some (.inl v3)
def F_Mod_isDirection (x1 : Int32) (x2 : Int32) (x3 : Int32) (st : XS) : Option Int32 := (xo_lp (fun q : Int32 => F_Mod_isDirection_b3 x1 x2 x3 st q) 1000000 (0 : Int32)).bind (Sum.elim (fun _ => some (1 : Int32)) (fun _ => some (0 : Int32)))
def F_Mod_statement_m239 (x2 : Int32) (st : XS) : Option (Int32 × XS) := (xo_rd (st.1 11) 3 (0 : Int32)).bind fun v1 => (xo_rd (st.1 11) 3 (1 : Int32)).bind fun v2 => (F_Mod_isDirection v1 v2 (st.1 0 0) st).bind fun v3 => if v3 = (0 : Int32) then if (st.1 0 0) = (6 : Int32) then some ((0 : Int32), st) else (xo_ck 7 (st.1 0 0)).bind fun _ => xo_nm (xs_A st 1 (upd (st.1 1) ((st.1 0 0)).toNatClampNeg x2)) fun t4 => (xo_rd (t4.1 11) 3 (0 : Int32)).bind fun v5 => (xo_ck 7 (t4.1 0 0)).bind fun _ => xo_nm (xs_A t4 2 (upd (t4.1 2) ((t4.1 0 0)).toNatClampNeg v5)) fun t6 => (xo_rd (t6.1 11) 3 (1 : Int32)).bind fun v7 => (xo_ck 7 (t6.1 0 0)).bind fun _ => xo_nm (xs_A t6 3 (upd (t6.1 3) ((t6.1 0 0)).toNatClampNeg v7)) fun t8 => xo_nm (xs_I t8 0 0 ((t8.1 0 0) + (1 : Int32))) fun t9 => (xo_rd (t9.1 11) 3 (2 : Int32)).bind fun v10 => (xo_ck 7 (t8.1 0 0)).bind fun _ => xo_nm (xs_A t9 4 (upd (t9.1 4) ((t8.1 0 0)).toNatClampNeg v10)) fun t11 => some ((1 : Int32), t11) else some ((0 : Int32), st)
def F_Mod_statement_m169 (x1 : Int32) (k0 : Int32) (st : XS) : Option (Int32 × XS) := if (0 : Int32) ≤ k0 then xo_nm (xs_I st 0 10 ((st.1 0 10) + (1 : Int32))) fun t12 => xo_bn (F_Mod_number (0 : Int32) (0 : Int32) t12) fun v13 t14 => if v13 = (0 : Int32) then some ((-1 : Int32), t14) else xo_bn (F_Mod_number (1 : Int32) (0 : Int32) t14) fun v15 t16 => if v15 = (0 : Int32) then some ((-1 : Int32), t16) else xo_bn (F_Mod_number (2 : Int32) (1 : Int32) t16) fun v17 t18 => if v17 = (0 : Int32) then some ((-1 : Int32), t18) else if x1 = (0 : Int32) then some ((1 : Int32), t18) else (xo_rd (t18.1 11) 3 (0 : Int32)).bind fun v19 => if v19 = (0 : Int32) then (xo_rd (t18.1 11) 3 (1 : Int32)).bind fun v20 => if v20 = (0 : Int32) then some ((0 : Int32), t18) else F_Mod_statement_m239 k0 t18 else F_Mod_statement_m239 k0 t18 else some ((-1 : Int32), st)
def F_Mod_statement_m168 (x1 : Int32) (st : XS) : Option (Int32 × XS) := F_Mod_statement_m169 x1 (-1 : Int32) st
def F_Mod_statement (x1 : Int32) (st : XS) : Option (Int32 × XS) := xo_bn (F_Mod_is (112 : Int32) st) fun v21 t22 => if v21 = (0 : Int32) then xo_bn (F_Mod_is (115 : Int32) t22) fun v23 t24 => if v23 = (0 : Int32) then some ((-1 : Int32), t24) else if (t24.1 0 8) ≤ (t24.1 0 10) then F_Mod_statement_m168 x1 t24 else (xo_rd (t24.1 9) 96 (t24.1 0 10)).bind fun v25 => if v25 ≤ (0 : Int32) then F_Mod_statement_m168 x1 t24 else (xo_rd (t24.1 9) 96 (t24.1 0 10)).bind fun v26 => (F_Str_indexOf1 v26).bind fun v27 => F_Mod_statement_m169 x1 v27 t24 else xo_bn (F_Mod_number (0 : Int32) (1 : Int32) t22) fun v28 t29 => if v28 = (0 : Int32) then some ((-1 : Int32), t29) else xo_bn (F_Mod_number (1 : Int32) (1 : Int32) t29) fun v30 t31 => if v30 = (0 : Int32) then some ((-1 : Int32), t31) else if x1 = (0 : Int32) then some ((1 : Int32), t31) else (xo_rd (t31.1 11) 3 (0 : Int32)).bind fun v32 => (F_Mod_within v32 (-20 : Int32) (20 : Int32)).bind fun v33 => if v33 = (0 : Int32) then some ((0 : Int32), t31) else (xo_rd (t31.1 11) 3 (1 : Int32)).bind fun v34 => (F_Mod_within v34 (-20 : Int32) (20 : Int32)).bind fun v35 => if v35 = (0 : Int32) then some ((0 : Int32), t31) else if (t31.1 0 5) = (8 : Int32) then some ((0 : Int32), t31) else (xo_rd (t31.1 11) 3 (0 : Int32)).bind fun v36 => (xo_ck 8 (t31.1 0 5)).bind fun _ => xo_nm (xs_A t31 6 (upd (t31.1 6) ((t31.1 0 5)).toNatClampNeg v36)) fun t37 => xo_nm (xs_I t37 0 5 ((t37.1 0 5) + (1 : Int32))) fun t38 => (xo_rd (t38.1 11) 3 (1 : Int32)).bind fun v39 => (xo_ck 8 (t37.1 0 5)).bind fun _ => xo_nm (xs_A t38 7 (upd (t38.1 7) ((t37.1 0 5)).toNatClampNeg v39)) fun t40 => some ((1 : Int32), t40)
def F_Mod_keep_b61 (x2 : Int32) (st : XS) : Option ((Int32 × XS) ⊕ XS) := if (8 : Int32) ≤ x2 then some (.inr st) else (xo_rd (st.1 6) 8 x2).bind fun v1 => (xo_ck 46 ((24 : Int32) + x2)).bind fun _ => xo_nm (xs_A st 17 (upd (st.1 17) (((24 : Int32) + x2)).toNatClampNeg v1)) fun t2 => (xo_rd (t2.1 7) 8 x2).bind fun v3 => (xo_ck 46 ((32 : Int32) + x2)).bind fun _ => xo_nm (xs_A t2 17 (upd (t2.1 17) (((32 : Int32) + x2)).toNatClampNeg v3)) fun t4 => xo_nm (x2 + (1 : Int32)) fun v5 => some (.inl (v5, t4))
def F_Mod_keep_b2 (x2 : Int32) (st : XS) : Option ((Int32 × XS) ⊕ XS) := if (6 : Int32) ≤ x2 then some (.inr st) else (xo_rd (st.1 1) 7 x2).bind fun v6 => (xo_ck 46 x2).bind fun _ => xo_nm (xs_A st 17 (upd (st.1 17) (x2).toNatClampNeg v6)) fun t7 => (xo_rd (t7.1 2) 7 x2).bind fun v8 => (xo_ck 46 ((6 : Int32) + x2)).bind fun _ => xo_nm (xs_A t7 17 (upd (t7.1 17) (((6 : Int32) + x2)).toNatClampNeg v8)) fun t9 => (xo_rd (t9.1 3) 7 x2).bind fun v10 => (xo_ck 46 ((12 : Int32) + x2)).bind fun _ => xo_nm (xs_A t9 17 (upd (t9.1 17) (((12 : Int32) + x2)).toNatClampNeg v10)) fun t11 => (xo_rd (t11.1 4) 7 x2).bind fun v12 => (xo_ck 46 ((18 : Int32) + x2)).bind fun _ => xo_nm (xs_A t11 17 (upd (t11.1 17) (((18 : Int32) + x2)).toNatClampNeg v12)) fun t13 => xo_nm (x2 + (1 : Int32)) fun v14 => some (.inl (v14, t13))
def F_Mod_keep (st : XS) : Option XS := (xo_lp (fun q : (Int32 × XS) => F_Mod_keep_b2 q.1 q.2) 1000000 ((0 : Int32), st)).bind (fun t15 => (xo_lp (fun q : (Int32 × XS) => F_Mod_keep_b61 q.1 q.2) 1000000 ((0 : Int32), t15)).bind (fun t16 => (xo_ck 46 (40 : Int32)).bind fun _ => xo_nm (xs_A t16 17 (upd (t16.1 17) ((40 : Int32)).toNatClampNeg (t16.1 0 0))) fun t17 => (xo_ck 46 (41 : Int32)).bind fun _ => xo_nm (xs_A t17 17 (upd (t17.1 17) ((41 : Int32)).toNatClampNeg (t17.1 0 5))) fun t18 => some t18))
def F_Mod_again_b61 (x2 : Int32) (st : XS) : Option ((Int32 × XS) ⊕ XS) := if (8 : Int32) ≤ x2 then some (.inr st) else (xo_rd (st.1 17) 46 ((24 : Int32) + x2)).bind fun v1 => (xo_ck 8 x2).bind fun _ => xo_nm (xs_A st 6 (upd (st.1 6) (x2).toNatClampNeg v1)) fun t2 => (xo_rd (t2.1 17) 46 ((32 : Int32) + x2)).bind fun v3 => (xo_ck 8 x2).bind fun _ => xo_nm (xs_A t2 7 (upd (t2.1 7) (x2).toNatClampNeg v3)) fun t4 => xo_nm (x2 + (1 : Int32)) fun v5 => some (.inl (v5, t4))
def F_Mod_again_b2 (x2 : Int32) (st : XS) : Option ((Int32 × XS) ⊕ XS) := if (6 : Int32) ≤ x2 then some (.inr st) else (xo_rd (st.1 17) 46 x2).bind fun v6 => (xo_ck 7 x2).bind fun _ => xo_nm (xs_A st 1 (upd (st.1 1) (x2).toNatClampNeg v6)) fun t7 => (xo_rd (t7.1 17) 46 ((6 : Int32) + x2)).bind fun v8 => (xo_ck 7 x2).bind fun _ => xo_nm (xs_A t7 2 (upd (t7.1 2) (x2).toNatClampNeg v8)) fun t9 => (xo_rd (t9.1 17) 46 ((12 : Int32) + x2)).bind fun v10 => (xo_ck 7 x2).bind fun _ => xo_nm (xs_A t9 3 (upd (t9.1 3) (x2).toNatClampNeg v10)) fun t11 => (xo_rd (t11.1 17) 46 ((18 : Int32) + x2)).bind fun v12 => (xo_ck 7 x2).bind fun _ => xo_nm (xs_A t11 4 (upd (t11.1 4) (x2).toNatClampNeg v12)) fun t13 => xo_nm (x2 + (1 : Int32)) fun v14 => some (.inl (v14, t13))
def F_Mod_again (st : XS) : Option XS := (xo_lp (fun q : (Int32 × XS) => F_Mod_again_b2 q.1 q.2) 1000000 ((0 : Int32), st)).bind (fun t15 => (xo_lp (fun q : (Int32 × XS) => F_Mod_again_b61 q.1 q.2) 1000000 ((0 : Int32), t15)).bind (fun t16 => (xo_rd (t16.1 17) 46 (40 : Int32)).bind fun v17 => xo_nm (xs_I t16 0 0 v17) fun t18 => (xo_rd (t18.1 17) 46 (41 : Int32)).bind fun v19 => xo_nm (xs_I t18 0 5 v19) fun t20 => some t20))
def F_Mod_town_b86 (x2 : Int32) (st : XS) : Option ((Int32 × XS) ⊕ ((Int32 × XS) ⊕ (Int32 × XS))) := if (st.1 0 8) ≤ (st.1 0 10) then some (.inr (.inr (x2, st))) else xo_nm ((st.1 0 10)) fun v1 => xo_bn (F_Mod_statement (1 : Int32) st) fun v2 t3 => if v2 = (0 : Int32) then some (.inr (.inl (v1, t3))) else xo_bn (F_Mod_is (59 : Int32) t3) fun v4 t5 => xo_nm (x2 + (1 : Int32)) fun v6 => some (.inl (v6, t5))
def F_Mod_town_m34 (k0 : Int32) (st : XS) : Option ((Int32 × XS) ⊕ ((Int32 × XS) ⊕ (Int32 × XS))) := if k0 = (0 : Int32) then some (.inl (k0, st)) else if (st.1 0 10) = (st.1 0 8) then some (.inr (.inl (k0, st))) else some (.inl (k0, st))
def F_Mod_town_m33  (st : XS) : Option ((Int32 × XS) ⊕ ((Int32 × XS) ⊕ (Int32 × XS))) := F_Mod_town_m34 (0 : Int32) st
def F_Mod_town_b7 (x1 : Int32) (st : XS) : Option ((Int32 × XS) ⊕ ((Int32 × XS) ⊕ (Int32 × XS))) := if x1 = (0 : Int32) then some (.inr (.inr (x1, st))) else xo_bn (F_Mod_statement (0 : Int32) st) fun v7 t8 => if v7 = (1 : Int32) then xo_bn (F_Mod_is (59 : Int32) t8) fun v9 t10 => if v9 = (0 : Int32) then F_Mod_town_m33 t10 else F_Mod_town_m34 (1 : Int32) t10 else F_Mod_town_m33 t8
def F_Mod_town_m53 (x1 : Int32) (st : XS) : Option (Int32 × XS) := if x1 = (0 : Int32) then xo_nm (xs_I st 0 8 (0 : Int32)) fun t11 => some (((-1000 : Int32) - (t11.1 0 10)), t11) else (F_Mod_keep st).bind fun t12 => xo_nm (xs_I t12 0 10 (0 : Int32)) fun t13 => (xo_lp (fun q : (Int32 × XS) => F_Mod_town_b86 q.1 q.2) 1000000 ((0 : Int32), t13)).bind (Sum.elim (xo_u2 fun o14 t15 => (F_Mod_again t15).bind fun t18 => xo_nm (xs_I t18 0 8 (0 : Int32)) fun t19 => some (((-2000 : Int32) - o14), t19)) (xo_u2 fun o16 t17 => xo_nm (xs_I t17 0 8 (0 : Int32)) fun t20 => some (o16, t20)))
def F_Mod_town (st : XS) : Option (Int32 × XS) := xo_nm (xs_I st 0 10 (0 : Int32)) fun t21 => (xo_lp (fun q : (Int32 × XS) => F_Mod_town_b7 q.1 q.2) 1000000 ((1 : Int32), t21)).bind (Sum.elim (xo_u2 fun o22 t23 => F_Mod_town_m53 o22 t23) (xo_u2 fun o24 t25 => F_Mod_town_m53 o24 t25))
def F_Mod_isStreet (x1 : Int32) (st : XS) : Option Int32 := (F_Mod_within x1 (0 : Int32) ((st.1 0 0) - (1 : Int32))).bind fun v1 => (xo_cb v1).bind fun v2 => some v2
def F_Mod_noFar (x1 : Int32) (st : XS) : Option (Int32 × XS) := xo_bn (F_Mod_no x1 st) fun v1 t2 => some (((1000000000 : Int32) - v1), t2)
def F_Mod_sideOfCrossing_m128 (x7 : Int32) (st : XS) : Option Int32 := if x7 ≤ (0 : Int32) then if (0 : Int32) ≤ x7 then some (0 : Int32) else some (-1 : Int32) else some (1 : Int32)
def F_Mod_sideOfCrossing (x1 : Int32) (x2 : Int32) (x3 : Int32) (st : XS) : Option Int32 := (xo_rd (st.1 2) 7 x2).bind fun v1 => (xo_rd (st.1 3) 7 x3).bind fun v2 => (xo_rd (st.1 2) 7 x3).bind fun v3 => (xo_rd (st.1 3) 7 x2).bind fun v4 => xo_nm (((v1 * v2) - (v3 * v4))) fun v5 => (xo_rd (st.1 4) 7 x2).bind fun v6 => (xo_rd (st.1 3) 7 x3).bind fun v7 => (xo_rd (st.1 4) 7 x3).bind fun v8 => (xo_rd (st.1 3) 7 x2).bind fun v9 => xo_nm (((v6 * v7) - (v8 * v9))) fun v10 => (xo_rd (st.1 2) 7 x2).bind fun v11 => (xo_rd (st.1 4) 7 x3).bind fun v12 => (xo_rd (st.1 2) 7 x3).bind fun v13 => (xo_rd (st.1 4) 7 x2).bind fun v14 => xo_nm (((v11 * v12) - (v13 * v14))) fun v15 => (xo_rd (st.1 2) 7 x1).bind fun v16 => (xo_rd (st.1 3) 7 x1).bind fun v17 => (xo_rd (st.1 4) 7 x1).bind fun v18 => xo_nm ((((v16 * v10) + (v17 * v15)) - (v18 * v5))) fun v19 => if (0 : Int32) ≤ v5 then F_Mod_sideOfCrossing_m128 v19 st else xo_nm ((-v19)) fun v20 => F_Mod_sideOfCrossing_m128 v20 st
def F_Mod_isFirst_b2 (x1 : Int32) (x2 : Int32) (st : XS) (x3 : Int32) : Option (Int32 ⊕ (Unit ⊕ Unit)) := if x2 ≤ x3 then some (.inr (.inr ())) else if x3 = x1 then xo_nm (x3 + (1 : Int32)) fun v1 => some (.inl v1) else (F_Mod_sideOfCrossing x3 x1 x2 st).bind fun v2 => if v2 = (0 : Int32) then some (.inr (.inl ())) else xo_nm (x3 + (1 : Int32)) fun v3 => some (.inl v3)
def F_Mod_isFirst (x1 : Int32) (x2 : Int32) (st : XS) : Option Int32 := (xo_lp (fun q : Int32 => F_Mod_isFirst_b2 x1 x2 st q) 1000000 (0 : Int32)).bind (Sum.elim (fun _ => some (0 : Int32)) (fun _ => some (1 : Int32)))
def F_Mod_pointsOf_b68 (x1 : Int32) (x2 : Int32) (x3 : Int32) (x4 : Int32) (x5 : Int32) (st : XS) (x6 : Int32) (x7 : Int32) : Option ((Int32 × Int32) ⊕ Int32) := if (st.1 0 0) ≤ x7 then some (.inr x6) else if x7 = x5 then xo_nm (x6 + (1 : Int32)) fun v1 => xo_nm (x7 + (1 : Int32)) fun v2 => some (.inl (v1, v2)) else if x7 = x4 then xo_nm (x6 + (1 : Int32)) fun v3 => xo_nm (x7 + (1 : Int32)) fun v4 => some (.inl (v3, v4)) else (F_Mod_sideOfCrossing x7 x5 x4 st).bind fun v5 => if v5 = (0 : Int32) then xo_nm (x6 + (1 : Int32)) fun v6 => xo_nm (x7 + (1 : Int32)) fun v7 => some (.inl (v6, v7)) else xo_nm (x7 + (1 : Int32)) fun v8 => some (.inl (x6, v8))
def F_Mod_pointsOf_m62 (x1 : Int32) (x2 : Int32) (x3 : Int32) (x4 : Int32) (x5 : Int32) (st : XS) : Option ((Int32 × Int32) ⊕ Int32) := (xo_lp (fun q : (Int32 × Int32) => F_Mod_pointsOf_b68 x1 x2 x3 x4 x5 st q.1 q.2) 1000000 ((0 : Int32), (0 : Int32))).bind (fun o9 => if x2 = (0 : Int32) then xo_nm (x3 + (1 : Int32)) fun v10 => xo_nm (x5 + (1 : Int32)) fun v11 => some (.inl (v10, v11)) else if o9 ≤ (2 : Int32) then xo_nm (x5 + (1 : Int32)) fun v12 => some (.inl (x3, v12)) else xo_nm (x3 + (1 : Int32)) fun v13 => xo_nm (x5 + (1 : Int32)) fun v14 => some (.inl (v13, v14)))
def F_Mod_pointsOf_b17 (x1 : Int32) (x2 : Int32) (x4 : Int32) (st : XS) (x3 : Int32) (x5 : Int32) : Option ((Int32 × Int32) ⊕ Int32) := if x4 ≤ x5 then some (.inr x3) else (F_Mod_isFirst x5 x4 st).bind fun v15 => if v15 = (0 : Int32) then xo_nm (x5 + (1 : Int32)) fun v16 => some (.inl (x3, v16)) else if x5 = x1 then F_Mod_pointsOf_m62 x1 x2 x3 x4 x5 st else if x4 = x1 then F_Mod_pointsOf_m62 x1 x2 x3 x4 x5 st else (F_Mod_sideOfCrossing x1 x5 x4 st).bind fun v17 => if v17 = (0 : Int32) then F_Mod_pointsOf_m62 x1 x2 x3 x4 x5 st else xo_nm (x5 + (1 : Int32)) fun v18 => some (.inl (x3, v18))
def F_Mod_pointsOf_b5 (x1 : Int32) (x2 : Int32) (st : XS) (x3 : Int32) (x4 : Int32) : Option ((Int32 × Int32) ⊕ Int32) := if (st.1 0 0) ≤ x4 then some (.inr x3) else (xo_lp (fun q : (Int32 × Int32) => F_Mod_pointsOf_b17 x1 x2 x4 st q.1 q.2) 1000000 (x3, (0 : Int32))).bind (fun o19 => xo_nm (x4 + (1 : Int32)) fun v20 => some (.inl (o19, v20)))
def F_Mod_pointsOf (x1 : Int32) (x2 : Int32) (st : XS) : Option Int32 := (xo_lp (fun q : (Int32 × Int32) => F_Mod_pointsOf_b5 x1 x2 st q.1 q.2) 1000000 ((0 : Int32), (0 : Int32))).bind (fun o21 => some o21)
def F_Mod_lampsOf (x1 : Int32) (st : XS) : Option Int32 := (F_Mod_pointsOf x1 (0 : Int32) st).bind fun v1 => (xo_rd (st.1 1) 7 x1).bind fun v2 => if v2 = (0 : Int32) then some v1 else if v2 = (1 : Int32) then some ((2 : Int32) * v1) else if v2 = (2 : Int32) then some (0 : Int32) else if v2 = (3 : Int32) then (F_Mod_pointsOf x1 (1 : Int32) st).bind fun v3 => some (((2 : Int32) * v1) + ((5 : Int32) * v3)) else if v2 = (4 : Int32) then some (((1 : Int32) + x1) * v1) else if x1 = ((st.1 0 0) - (1 : Int32)) then some ((7 : Int32) * v1) else some (0 : Int32)
def F_Mod_street (x1 : Int32) (x2 : Int32) (st : XS) : Option (Int32 × XS) := (F_Mod_isStreet x1 st).bind fun v1 => if v1 = (0 : Int32) then xo_bn (F_Mod_noFar (-1 : Int32) st) fun v2 t3 => some (v2, t3) else if x2 = (0 : Int32) then (xo_rd (st.1 1) 7 x1).bind fun v4 => some (v4, st) else if x2 = (1 : Int32) then (xo_rd (st.1 2) 7 x1).bind fun v5 => some (v5, st) else if x2 = (2 : Int32) then (xo_rd (st.1 3) 7 x1).bind fun v6 => some (v6, st) else if x2 = (3 : Int32) then (xo_rd (st.1 4) 7 x1).bind fun v7 => some (v7, st) else if x2 = (4 : Int32) then (F_Mod_lampsOf x1 st).bind fun v8 => some (v8, st) else xo_bn (F_Mod_noFar (-2 : Int32) st) fun v9 t10 => some (v9, t10)
def F_Mod_isPlot (x1 : Int32) (st : XS) : Option Int32 := (F_Mod_within x1 (0 : Int32) ((st.1 0 5) - (1 : Int32))).bind fun v1 => (xo_cb v1).bind fun v2 => some v2
def F_Mod_plot (x1 : Int32) (x2 : Int32) (st : XS) : Option (Int32 × XS) := (F_Mod_isPlot x1 st).bind fun v1 => if v1 = (0 : Int32) then xo_bn (F_Mod_noFar (-1 : Int32) st) fun v2 t3 => some (v2, t3) else (F_Mod_within x2 (0 : Int32) (1 : Int32)).bind fun v4 => if v4 = (0 : Int32) then xo_bn (F_Mod_noFar (-2 : Int32) st) fun v5 t6 => some (v5, t6) else if x2 = (0 : Int32) then (xo_rd (st.1 6) 8 x1).bind fun v7 => some (v7, st) else (xo_rd (st.1 7) 8 x1).bind fun v8 => some (v8, st)
def F_Mod_crossing_b162 (x3 : Int32) (x4 : Int32) (x5 : Int32) (st : XS) (x6 : Int32) (x7 : Int32) : Option ((Int32 × Int32) ⊕ Int32) := if x7 = (0 : Int32) then some (.inr x6) else (xo_rm x6 x7).bind fun v1 => some (.inl (x7, v1))
def F_Mod_crossing_m151 (x3 : Int32) (x4 : Int32) (x5 : Int32) (st : XS) : Option (Int32 × XS) := xo_nm ((if 0 ≤ x5 then x5 else 0 - x5)) fun v2 => (xo_lp (fun q : (Int32 × Int32) => F_Mod_crossing_b162 x3 x4 x5 st q.1 q.2) 1000000 (v2, x4)).bind (fun o3 => (xo_rm x3 (2 : Int32)).bind fun v4 => if v4 = (0 : Int32) then (xo_dv x5 o3).bind fun v5 => some (v5, st) else (xo_dv x4 o3).bind fun v6 => some (v6, st))
def F_Mod_crossing_m134 (x3 : Int32) (x4 : Int32) (k0 : Int32) (st : XS) : Option (Int32 × XS) := if (0 : Int32) ≤ x4 then F_Mod_crossing_m151 x3 x4 k0 st else xo_nm ((-x4)) fun v7 => xo_nm ((-k0)) fun v8 => F_Mod_crossing_m151 x3 v7 v8 st
def F_Mod_crossing_m21  (st : XS) : Option (Int32 × XS) := xo_bn (F_Mod_noFar (-1 : Int32) st) fun v9 t10 => some (v9, t10)
def F_Mod_crossing (x1 : Int32) (x2 : Int32) (x3 : Int32) (st : XS) : Option (Int32 × XS) := (F_Mod_isStreet x1 st).bind fun v11 => if v11 = (0 : Int32) then F_Mod_crossing_m21 st else (F_Mod_isStreet x2 st).bind fun v12 => if v12 = (0 : Int32) then F_Mod_crossing_m21 st else if x1 = x2 then F_Mod_crossing_m21 st else (F_Mod_within x3 (0 : Int32) (3 : Int32)).bind fun v13 => if v13 = (0 : Int32) then xo_bn (F_Mod_noFar (-2 : Int32) st) fun v14 t15 => some (v14, t15) else (xo_rd (st.1 2) 7 x1).bind fun v16 => (xo_rd (st.1 3) 7 x2).bind fun v17 => (xo_rd (st.1 2) 7 x2).bind fun v18 => (xo_rd (st.1 3) 7 x1).bind fun v19 => xo_nm (((v16 * v17) - (v18 * v19))) fun v20 => if (2 : Int32) ≤ x3 then (xo_rd (st.1 2) 7 x1).bind fun v21 => (xo_rd (st.1 4) 7 x2).bind fun v22 => (xo_rd (st.1 2) 7 x2).bind fun v23 => (xo_rd (st.1 4) 7 x1).bind fun v24 => F_Mod_crossing_m134 x3 v20 ((v21 * v22) - (v23 * v24)) st else (xo_rd (st.1 4) 7 x1).bind fun v25 => (xo_rd (st.1 3) 7 x2).bind fun v26 => (xo_rd (st.1 4) 7 x2).bind fun v27 => (xo_rd (st.1 3) 7 x1).bind fun v28 => F_Mod_crossing_m134 x3 v20 ((v25 * v26) - (v27 * v28)) st
def F_Mod_along_m38 (x4 : Int32) (st : XS) : Option Int32 := if x4 ≤ (0 : Int32) then if (0 : Int32) ≤ x4 then some (0 : Int32) else some (-1 : Int32) else some (1 : Int32)
def F_Mod_along (x1 : Int32) (x2 : Int32) (x3 : Int32) (st : XS) : Option Int32 := (xo_rd (st.1 3) 7 x1).bind fun v1 => (xo_rd (st.1 2) 7 x2).bind fun v2 => (xo_rd (st.1 2) 7 x1).bind fun v3 => (xo_rd (st.1 3) 7 x2).bind fun v4 => xo_nm (((v1 * v2) - (v3 * v4))) fun v5 => if x3 = (0 : Int32) then F_Mod_along_m38 v5 st else xo_nm ((-v5)) fun v6 => F_Mod_along_m38 v6 st
def F_Mod_has (x0 : Int32) (x1 : Int32) : Option Int32 := if ((x0 >>> (x1 &&& 31)) &&& (1 : Int32)) = (1 : Int32) then some (1 : Int32) else some (0 : Int32)
def F_Mod_isAbout_m90 (x1 : Int32) (x2 : Int32) (x3 : Int32) (x4 : Int32) (x5 : Int32) (x6 : Int32) (x7 : Int32) (k0 : Int32) (st : XS) : Option ((Int32 × Int32) ⊕ Int32) := (F_Mod_has x2 x7).bind fun v1 => if k0 = v1 then xo_nm (x7 + (1 : Int32)) fun v2 => some (.inl (x6, v2)) else xo_nm (x7 + (1 : Int32)) fun v3 => some (.inl ((0 : Int32), v3))
def F_Mod_isAbout_m79 (x1 : Int32) (x2 : Int32) (x3 : Int32) (x4 : Int32) (x5 : Int32) (x6 : Int32) (x7 : Int32) (k1 : Int32) (k2 : Int32) (k3 : Int32) (st : XS) : Option ((Int32 × Int32) ⊕ Int32) := (F_Mod_along k1 k2 k3 st).bind fun v4 => if v4 ≤ (0 : Int32) then F_Mod_isAbout_m90 x1 x2 x3 x4 x5 x6 x7 (0 : Int32) st else F_Mod_isAbout_m90 x1 x2 x3 x4 x5 x6 x7 (1 : Int32) st
def F_Mod_isAbout_b36 (x1 : Int32) (x2 : Int32) (x3 : Int32) (x4 : Int32) (x5 : Int32) (st : XS) (x6 : Int32) (x7 : Int32) : Option ((Int32 × Int32) ⊕ Int32) := if x3 ≤ x7 then some (.inr x6) else if x6 = (0 : Int32) then some (.inr x6) else if x7 = x4 then xo_nm (x7 + (1 : Int32)) fun v5 => some (.inl (x6, v5)) else (F_Mod_has x1 x7).bind fun v6 => if v6 = (0 : Int32) then xo_nm (x7 + (1 : Int32)) fun v7 => some (.inl (x6, v7)) else if x5 = (1 : Int32) then F_Mod_isAbout_m79 x1 x2 x3 x4 x5 x6 x7 x7 x4 (1 : Int32) st else F_Mod_isAbout_m79 x1 x2 x3 x4 x5 x6 x7 x7 x4 (0 : Int32) st
def F_Mod_isAbout_b24 (x1 : Int32) (x2 : Int32) (x3 : Int32) (x4 : Int32) (st : XS) (x5 : Int32) : Option (Int32 ⊕ (Unit ⊕ Unit)) := if (2 : Int32) ≤ x5 then some (.inr (.inr ())) else (xo_lp (fun q : (Int32 × Int32) => F_Mod_isAbout_b36 x1 x2 x3 x4 x5 st q.1 q.2) 1000000 ((1 : Int32), (0 : Int32))).bind (fun o8 => if o8 = (0 : Int32) then xo_nm (x5 + (1 : Int32)) fun v9 => some (.inl v9) else some (.inr (.inl ())))
def F_Mod_isAbout_b3 (x1 : Int32) (x2 : Int32) (x3 : Int32) (st : XS) (x4 : Int32) : Option (Int32 ⊕ (Unit ⊕ Unit)) := if x3 ≤ x4 then some (.inr (.inr ())) else (F_Mod_has x1 x4).bind fun v10 => if v10 = (0 : Int32) then xo_nm (x4 + (1 : Int32)) fun v11 => some (.inl v11) else (xo_lp (fun q : Int32 => F_Mod_isAbout_b24 x1 x2 x3 x4 st q) 1000000 (0 : Int32)).bind (Sum.elim (fun _ => some (.inr (.inl ()))) (fun _ => xo_nm (x4 + (1 : Int32)) fun v12 => some (.inl v12)))
def F_Mod_isAbout (x1 : Int32) (x2 : Int32) (x3 : Int32) (st : XS) : Option Int32 := (xo_lp (fun q : Int32 => F_Mod_isAbout_b3 x1 x2 x3 st q) 1000000 (0 : Int32)).bind (Sum.elim (fun _ => some (1 : Int32)) (fun _ => some (0 : Int32)))
def F_Mod_lay_b17 (x1 : Int32) (x2 : Int32) (st : XS) : Option ((Int32 × XS) ⊕ XS) := if (128 : Int32) ≤ x2 then some (.inr st) else (xo_ck 128 x2).bind fun _ => xo_nm (xs_A st 18 (upd (st.1 18) (x2).toNatClampNeg (0 : Int32))) fun t1 => (xo_ck 128 x2).bind fun _ => xo_nm (xs_A t1 19 (upd (t1.1 19) (x2).toNatClampNeg (vp_nar .boolean (0 : Int32)))) fun t2 => xo_nm (x2 + (1 : Int32)) fun v3 => some (.inl (v3, t2))
def F_Mod_lay_b132 (x1 : Int32) (x2 : Int32) (x3 : Int32) (x4 : Int32) (x5 : Int32) (st : XS) : Option ((Int32 × XS) ⊕ XS) := if (2 : Int32) ≤ x5 then some (.inr st) else xo_nm ((x4 ||| (x5 <<< (x2 &&& 31)))) fun v4 => (xo_ck 128 v4).bind fun _ => xo_nm (xs_A st 18 (upd (st.1 18) (v4).toNatClampNeg (1 : Int32))) fun t5 => (xo_ck 128 v4).bind fun _ => xo_nm (xs_A t5 19 (upd (t5.1 19) (v4).toNatClampNeg (vp_nar .boolean (1 : Int32)))) fun t6 => xo_nm (x5 + (1 : Int32)) fun v7 => some (.inl (v7, t6))
def F_Mod_lay_m108 (x1 : Int32) (x2 : Int32) (x3 : Int32) (x4 : Int32) (x5 : Int32) (k1 : Int32) (k2 : Int32) (k3 : Int32) (st : XS) : Option ((Int32 × Int32) ⊕ Int32) := (F_Mod_along k1 k2 k3 st).bind fun v8 => if v8 ≤ (0 : Int32) then xo_nm (x5 + (1 : Int32)) fun v9 => some (.inl (x4, v9)) else xo_nm ((x4 ||| ((1 : Int32) <<< (x5 &&& 31)))) fun v10 => xo_nm (x5 + (1 : Int32)) fun v11 => some (.inl (v10, v11))
def F_Mod_lay_b82 (x1 : Int32) (x2 : Int32) (x3 : Int32) (st : XS) (x4 : Int32) (x5 : Int32) : Option ((Int32 × Int32) ⊕ Int32) := if x1 ≤ x5 then some (.inr x4) else if x5 = x2 then xo_nm (x5 + (1 : Int32)) fun v12 => some (.inl (x4, v12)) else if x3 = (1 : Int32) then F_Mod_lay_m108 x1 x2 x3 x4 x5 x5 x2 (1 : Int32) st else F_Mod_lay_m108 x1 x2 x3 x4 x5 x5 x2 (0 : Int32) st
def F_Mod_lay_m256 (x1 : Int32) (x2 : Int32) (x3 : Int32) (x4 : Int32) (x5 : Int32) (x6 : Int32) (x7 : Int32) (st : XS) : Option ((Int32 × Int32 × Int32) ⊕ (Int32 × Int32)) := if x7 ≤ (0 : Int32) then xo_nm (x6 + (1 : Int32)) fun v13 => some (.inl (x4, x5, v13)) else xo_nm ((x5 ||| ((1 : Int32) <<< (x6 &&& 31)))) fun v14 => xo_nm (x6 + (1 : Int32)) fun v15 => some (.inl (x4, v14, v15))
def F_Mod_lay_b226 (x1 : Int32) (x2 : Int32) (x3 : Int32) (st : XS) (x4 : Int32) (x5 : Int32) (x6 : Int32) : Option ((Int32 × Int32 × Int32) ⊕ (Int32 × Int32)) := if x1 ≤ x6 then some (.inr (x4, x5)) else (F_Mod_sideOfCrossing x6 x3 x2 st).bind fun v16 => if v16 = (0 : Int32) then xo_nm ((x4 ||| ((1 : Int32) <<< (x6 &&& 31)))) fun v17 => F_Mod_lay_m256 x1 x2 x3 v17 x5 x6 v16 st else F_Mod_lay_m256 x1 x2 x3 x4 x5 x6 v16 st
def F_Mod_lay_b315 (x1 : Int32) (x2 : Int32) (x3 : Int32) (x4 : Int32) (x5 : Int32) (x7 : Int32) (st : XS) : Option ((Int32 × XS) ⊕ XS) := if (128 : Int32) ≤ x7 then some (.inr st) else if (x7 &&& (x4 ^^^ (-1 : Int32))) = (0 : Int32) then (F_Mod_isAbout x4 x7 x1 st).bind fun v18 => if v18 = (0 : Int32) then xo_nm (x7 + (1 : Int32)) fun v19 => some (.inl (v19, st)) else xo_nm ((x5 ||| x7)) fun v20 => (xo_rd (st.1 18) 128 v20).bind fun v21 => (xo_ck 128 v20).bind fun _ => xo_nm (xs_A st 18 (upd (st.1 18) (v20).toNatClampNeg ((if (1 : Int32) < v21 then v21 else (1 : Int32)) + (1 : Int32)))) fun t22 => xo_nm (x7 + (1 : Int32)) fun v23 => some (.inl (v23, t22)) else xo_nm (x7 + (1 : Int32)) fun v24 => some (.inl (v24, st))
def F_Mod_lay_b71 (x1 : Int32) (x2 : Int32) (x3 : Int32) (st : XS) : Option ((Int32 × XS) ⊕ XS) := if (2 : Int32) ≤ x3 then some (.inr st) else (xo_lp (fun q : (Int32 × Int32) => F_Mod_lay_b82 x1 x2 x3 st q.1 q.2) 1000000 ((0 : Int32), (0 : Int32))).bind (fun o25 => (xo_lp (fun q : (Int32 × XS) => F_Mod_lay_b132 x1 x2 x3 o25 q.1 q.2) 1000000 ((0 : Int32), st)).bind (fun t26 => xo_nm (x3 + (1 : Int32)) fun v27 => some (.inl (v27, t26))))
def F_Mod_lay_b64 (x1 : Int32) (x2 : Int32) (st : XS) : Option ((Int32 × XS) ⊕ XS) := if x1 ≤ x2 then some (.inr st) else (xo_lp (fun q : (Int32 × XS) => F_Mod_lay_b71 x1 x2 q.1 q.2) 1000000 ((0 : Int32), st)).bind (fun t28 => xo_nm (x2 + (1 : Int32)) fun v29 => some (.inl (v29, t28)))
def F_Mod_lay_m299 (x1 : Int32) (x2 : Int32) (x3 : Int32) (x4 : Int32) (x5 : Int32) (x6 : Int32) (st : XS) : Option ((Int32 × XS) ⊕ XS) := xo_nm (xs_I st 0 22 (if (st.1 0 22) < x6 then x6 else (st.1 0 22))) fun t30 => (xo_lp (fun q : (Int32 × XS) => F_Mod_lay_b315 x1 x2 x3 x4 x5 q.1 q.2) 1000000 ((0 : Int32), t30)).bind (fun t31 => xo_nm (x3 + (1 : Int32)) fun v32 => some (.inl (v32, t31)))
def F_Mod_lay_b190 (x1 : Int32) (x2 : Int32) (x3 : Int32) (st : XS) : Option ((Int32 × XS) ⊕ XS) := if x2 ≤ x3 then some (.inr st) else (F_Mod_isFirst x3 x2 st).bind fun v33 => if v33 = (0 : Int32) then xo_nm (x3 + (1 : Int32)) fun v34 => some (.inl (v34, st)) else xo_nm (xs_I st 0 20 ((st.1 0 20) + (1 : Int32))) fun t35 => (xo_lp (fun q : (Int32 × Int32 × Int32) => F_Mod_lay_b226 x1 x2 x3 t35 q.1 q.2.1 q.2.2) 1000000 ((0 : Int32), (0 : Int32), (0 : Int32))).bind (xo_u2 fun o36 o37 => (F_Int_bitCount o36).bind fun v38 => if v38 ≤ (2 : Int32) then F_Mod_lay_m299 x1 x2 x3 o36 o37 v38 t35 else xo_nm (xs_I t35 0 21 ((t35.1 0 21) + (1 : Int32))) fun t39 => F_Mod_lay_m299 x1 x2 x3 o36 o37 v38 t39)
def F_Mod_lay_b183 (x1 : Int32) (x2 : Int32) (st : XS) : Option ((Int32 × XS) ⊕ XS) := if x1 ≤ x2 then some (.inr st) else (xo_lp (fun q : (Int32 × XS) => F_Mod_lay_b190 x1 x2 q.1 q.2) 1000000 ((0 : Int32), st)).bind (fun t40 => xo_nm (x2 + (1 : Int32)) fun v41 => some (.inl (v41, t40)))
def F_Mod_lay_m62 (x1 : Int32) (st : XS) : Option XS := (xo_lp (fun q : (Int32 × XS) => F_Mod_lay_b64 x1 q.1 q.2) 1000000 ((0 : Int32), st)).bind (fun t42 => (xo_lp (fun q : (Int32 × XS) => F_Mod_lay_b183 x1 q.1 q.2) 1000000 ((0 : Int32), t42)).bind (fun t43 => some t43))
def F_Mod_lay (x1 : Int32) (st : XS) : Option XS := xo_nm (xs_I st 0 20 (0 : Int32)) fun t44 => xo_nm (xs_I t44 0 21 (0 : Int32)) fun t45 => xo_nm (xs_I t45 0 22 (0 : Int32)) fun t46 => (xo_lp (fun q : (Int32 × XS) => F_Mod_lay_b17 x1 q.1 q.2) 1000000 ((0 : Int32), t46)).bind (fun t47 => if x1 = (0 : Int32) then (xo_ck 128 (0 : Int32)).bind fun _ => xo_nm (xs_A t47 18 (upd (t47.1 18) ((0 : Int32)).toNatClampNeg (1 : Int32))) fun t48 => (xo_ck 128 (0 : Int32)).bind fun _ => xo_nm (xs_A t48 19 (upd (t48.1 19) ((0 : Int32)).toNatClampNeg (vp_nar .boolean (1 : Int32)))) fun t49 => F_Mod_lay_m62 x1 t49 else F_Mod_lay_m62 x1 t47)
def F_Mod_howMany_b4 (st : XS) (x1 : Int32) (x2 : Int32) : Option ((Int32 × Int32) ⊕ Int32) := if (128 : Int32) ≤ x2 then some (.inr x1) else (xo_rd (st.1 18) 128 x2).bind fun v1 => if v1 ≤ (0 : Int32) then xo_nm (x2 + (1 : Int32)) fun v2 => some (.inl (x1, v2)) else xo_nm (x1 + (1 : Int32)) fun v3 => xo_nm (x2 + (1 : Int32)) fun v4 => some (.inl (v3, v4))
def F_Mod_howMany (st : XS) : Option Int32 := (xo_lp (fun q : (Int32 × Int32) => F_Mod_howMany_b4 st q.1 q.2) 1000000 ((0 : Int32), (0 : Int32))).bind (fun o5 => some o5)
def F_Mod_quarters (st : XS) : Option (Int32 × XS) := (F_Mod_lay (st.1 0 0) st).bind fun t1 => (F_Mod_howMany t1).bind fun v2 => some (v2, t1)
def F_Mod_open_b12 (st : XS) (x1 : Int32) (x2 : Int32) : Option ((Int32 × Int32) ⊕ Int32) := if (128 : Int32) ≤ x2 then some (.inr x1) else (xo_rd (st.1 19) 128 x2).bind fun v1 => if v1 = (0 : Int32) then xo_nm (x2 + (1 : Int32)) fun v2 => some (.inl (x1, v2)) else xo_nm (x1 + (1 : Int32)) fun v3 => xo_nm (x2 + (1 : Int32)) fun v4 => some (.inl (v3, v4))
def F_Mod_open (st : XS) : Option (Int32 × XS) := (F_Mod_lay (st.1 0 0) st).bind fun t5 => (xo_lp (fun q : (Int32 × Int32) => F_Mod_open_b12 t5 q.1 q.2) 1000000 ((0 : Int32), (0 : Int32))).bind (fun o6 => some (o6, t5))
def F_Mod_with_b36 (x1 : Int32) (st : XS) (x2 : Int32) (x3 : Int32) : Option ((Int32 × Int32) ⊕ Int32) := if (128 : Int32) ≤ x3 then some (.inr x2) else (xo_rd (st.1 18) 128 x3).bind fun v1 => if v1 = (x1 + (1 : Int32)) then xo_nm (x2 + (1 : Int32)) fun v2 => xo_nm (x3 + (1 : Int32)) fun v3 => some (.inl (v2, v3)) else xo_nm (x3 + (1 : Int32)) fun v4 => some (.inl (x2, v4))
def F_Mod_with (x1 : Int32) (st : XS) : Option (Int32 × XS) := if (0 : Int32) ≤ x1 then if x1 ≤ (12 : Int32) then (F_Mod_lay (st.1 0 0) st).bind fun t5 => (xo_lp (fun q : (Int32 × Int32) => F_Mod_with_b36 x1 t5 q.1 q.2) 1000000 ((0 : Int32), (0 : Int32))).bind (fun o6 => some (o6, t5)) else xo_bn (F_Mod_no (-6 : Int32) st) fun v7 t8 => some (v7, t8) else xo_bn (F_Mod_no (-4 : Int32) st) fun v9 t10 => some (v9, t10)
def F_Mod_isQuarter (x1 : Int32) (st : XS) : Option (Int32 × XS) := (F_Mod_lay (st.1 0 0) st).bind fun t1 => (F_Mod_within x1 (0 : Int32) (127 : Int32)).bind fun v2 => if v2 = (0 : Int32) then some ((0 : Int32), t1) else (xo_rd (t1.1 18) 128 x1).bind fun v3 => if v3 ≤ (0 : Int32) then some ((0 : Int32), t1) else some ((1 : Int32), t1)
def F_Mod_corners (x1 : Int32) (st : XS) : Option (Int32 × XS) := xo_bn (F_Mod_isQuarter x1 st) fun v1 t2 => if v1 = (0 : Int32) then xo_bn (F_Mod_no (-1 : Int32) t2) fun v3 t4 => some (v3, t4) else (xo_rd (t2.1 18) 128 x1).bind fun v5 => some ((v5 - (1 : Int32)), t2)
def F_Mod_sidesOf_b4 (x1 : Int32) (st : XS) (x2 : Int32) (x3 : Int32) : Option ((Int32 × Int32) ⊕ Int32) := if (st.1 0 0) ≤ x3 then some (.inr x2) else (xo_rd (st.1 18) 128 (x1 ^^^ ((1 : Int32) <<< (x3 &&& 31)))).bind fun v1 => if v1 ≤ (0 : Int32) then xo_nm (x3 + (1 : Int32)) fun v2 => some (.inl (x2, v2)) else xo_nm (x2 + (1 : Int32)) fun v3 => xo_nm (x3 + (1 : Int32)) fun v4 => some (.inl (v3, v4))
def F_Mod_sidesOf (x1 : Int32) (st : XS) : Option Int32 := (xo_lp (fun q : (Int32 × Int32) => F_Mod_sidesOf_b4 x1 st q.1 q.2) 1000000 ((0 : Int32), (0 : Int32))).bind (fun o5 => some o5)
def F_Mod_sides (x1 : Int32) (st : XS) : Option (Int32 × XS) := xo_bn (F_Mod_isQuarter x1 st) fun v1 t2 => if v1 = (0 : Int32) then xo_bn (F_Mod_no (-1 : Int32) t2) fun v3 t4 => some (v3, t4) else (F_Mod_sidesOf x1 t2).bind fun v5 => some (v5, t2)
def F_Mod_isOpen (x1 : Int32) (st : XS) : Option (Int32 × XS) := xo_bn (F_Mod_isQuarter x1 st) fun v1 t2 => if v1 = (0 : Int32) then xo_bn (F_Mod_no (-1 : Int32) t2) fun v3 t4 => some (v3, t4) else (xo_rd (t2.1 19) 128 x1).bind fun v5 => if v5 = (0 : Int32) then some ((0 : Int32), t2) else some ((1 : Int32), t2)
def F_Mod_whole_b12 (st : XS) (x1 : Int32) (x2 : Int32) : Option ((Int32 × Int32) ⊕ Int32) := if (128 : Int32) ≤ x2 then some (.inr x1) else (xo_rd (st.1 18) 128 x2).bind fun v1 => if v1 ≤ (0 : Int32) then xo_nm (x2 + (1 : Int32)) fun v2 => some (.inl (x1, v2)) else (F_Mod_sidesOf x2 st).bind fun v3 => if v3 = (st.1 0 0) then xo_nm (x1 + (1 : Int32)) fun v4 => xo_nm (x2 + (1 : Int32)) fun v5 => some (.inl (v4, v5)) else xo_nm (x2 + (1 : Int32)) fun v6 => some (.inl (x1, v6))
def F_Mod_whole (st : XS) : Option (Int32 × XS) := (F_Mod_lay (st.1 0 0) st).bind fun t7 => (xo_lp (fun q : (Int32 × Int32) => F_Mod_whole_b12 t7 q.1 q.2) 1000000 ((0 : Int32), (0 : Int32))).bind (fun o8 => some (o8, t7))
def F_Mod_points (x1 : Int32) (st : XS) : Option (Int32 × XS) := (F_Mod_within x1 (0 : Int32) (2 : Int32)).bind fun v1 => if v1 = (0 : Int32) then xo_bn (F_Mod_no (-2 : Int32) st) fun v2 t3 => some (v2, t3) else (F_Mod_lay (st.1 0 0) st).bind fun t4 => if x1 = (0 : Int32) then some ((t4.1 0 20), t4) else if x1 = (1 : Int32) then some ((t4.1 0 21), t4) else some ((t4.1 0 22), t4)
def F_Mod_lamps_b4 (st : XS) (x1 : Int32) (x2 : Int32) : Option ((Int32 × Int32) ⊕ Int32) := if (st.1 0 0) ≤ x2 then some (.inr x1) else (F_Mod_lampsOf x2 st).bind fun v1 => xo_nm ((x1 + v1)) fun v2 => xo_nm (x2 + (1 : Int32)) fun v3 => some (.inl (v2, v3))
def F_Mod_lamps (st : XS) : Option Int32 := (xo_lp (fun q : (Int32 × Int32) => F_Mod_lamps_b4 st q.1 q.2) 1000000 ((0 : Int32), (0 : Int32))).bind (fun o4 => some o4)
def F_Mod_side (x1 : Int32) (x2 : Int32) (x3 : Int32) (st : XS) : Option Int32 := (xo_rd (st.1 2) 7 x1).bind fun v1 => (xo_rd (st.1 3) 7 x1).bind fun v2 => (xo_rd (st.1 4) 7 x1).bind fun v3 => xo_nm ((((v1 * x2) + (v2 * x3)) - v3)) fun v4 => if v4 ≤ (0 : Int32) then if (0 : Int32) ≤ v4 then some (0 : Int32) else some (-1 : Int32) else some (1 : Int32)
def F_Mod_at_b5 (x1 : Int32) (x2 : Int32) (st : XS) (x3 : Int32) (x4 : Int32) : Option ((Int32 × Int32) ⊕ (Unit ⊕ Int32)) := if (st.1 0 0) ≤ x4 then some (.inr (.inr x3)) else (F_Mod_side x4 x1 x2 st).bind fun v1 => if v1 = (0 : Int32) then some (.inr (.inl ())) else if v1 ≤ (0 : Int32) then xo_nm (x4 + (1 : Int32)) fun v2 => some (.inl (x3, v2)) else xo_nm ((x3 ||| ((1 : Int32) <<< (x4 &&& 31)))) fun v3 => xo_nm (x4 + (1 : Int32)) fun v4 => some (.inl (v3, v4))
def F_Mod_at (x1 : Int32) (x2 : Int32) (st : XS) : Option Int32 := (xo_lp (fun q : (Int32 × Int32) => F_Mod_at_b5 x1 x2 st q.1 q.2) 1000000 ((0 : Int32), (0 : Int32))).bind (Sum.elim (fun _ => some (-9 : Int32)) (fun o5 => some o5))
def F_Mod_whereIs (x1 : Int32) (st : XS) : Option Int32 := (xo_rd (st.1 6) 8 x1).bind fun v1 => (xo_rd (st.1 7) 8 x1).bind fun v2 => (F_Mod_at v1 v2 st).bind fun v3 => some v3
def F_Mod_where (x1 : Int32) (st : XS) : Option (Int32 × XS) := (F_Mod_isPlot x1 st).bind fun v1 => if v1 = (0 : Int32) then xo_bn (F_Mod_no (-1 : Int32) st) fun v2 t3 => some (v2, t3) else (F_Mod_whereIs x1 st).bind fun v4 => some (v4, st)
def F_Mod_together_b25 (x2 : Int32) (st : XS) (x3 : Int32) (x4 : Int32) : Option ((Int32 × Int32) ⊕ Int32) := if (st.1 0 5) ≤ x4 then some (.inr x3) else if x2 = (-9 : Int32) then some (.inr x3) else (F_Mod_whereIs x4 st).bind fun v1 => if v1 = x2 then xo_nm ((x3 ||| ((1 : Int32) <<< (x4 &&& 31)))) fun v2 => xo_nm (x4 + (1 : Int32)) fun v3 => some (.inl (v2, v3)) else xo_nm (x4 + (1 : Int32)) fun v4 => some (.inl (x3, v4))
def F_Mod_together (x1 : Int32) (st : XS) : Option (Int32 × XS) := (F_Mod_isPlot x1 st).bind fun v5 => if v5 = (0 : Int32) then xo_bn (F_Mod_no (-1 : Int32) st) fun v6 t7 => some (v6, t7) else (F_Mod_whereIs x1 st).bind fun v8 => (xo_lp (fun q : (Int32 × Int32) => F_Mod_together_b25 v8 st q.1 q.2) 1000000 ((0 : Int32), (0 : Int32))).bind (fun o9 => some (o9, st))
def F_Mod_steps_m16  (st : XS) : Option (Int32 × XS) := xo_bn (F_Mod_no (-1 : Int32) st) fun v1 t2 => some (v1, t2)
def F_Mod_steps (x1 : Int32) (x2 : Int32) (st : XS) : Option (Int32 × XS) := (F_Mod_isPlot x1 st).bind fun v3 => if v3 = (0 : Int32) then F_Mod_steps_m16 st else (F_Mod_isPlot x2 st).bind fun v4 => if v4 = (0 : Int32) then F_Mod_steps_m16 st else (F_Mod_whereIs x1 st).bind fun v5 => (F_Mod_whereIs x2 st).bind fun v6 => if v5 = (-9 : Int32) then some ((-9 : Int32), st) else if v6 = (-9 : Int32) then some ((-9 : Int32), st) else (F_Int_bitCount (v5 ^^^ v6)).bind fun v7 => some (v7, st)
def F_Mod_think (x1 : Int32) (x2 : Int32) (x3 : Int32) (st : XS) : Option XS := (xo_ck 7 (st.1 0 0)).bind fun _ => xo_nm (xs_A st 2 (upd (st.1 2) ((st.1 0 0)).toNatClampNeg x1)) fun t1 => (xo_ck 7 (t1.1 0 0)).bind fun _ => xo_nm (xs_A t1 3 (upd (t1.1 3) ((t1.1 0 0)).toNatClampNeg x2)) fun t2 => (xo_ck 7 (t2.1 0 0)).bind fun _ => xo_nm (xs_A t2 4 (upd (t2.1 4) ((t2.1 0 0)).toNatClampNeg x3)) fun t3 => some t3
def F_Mod_cuts (x1 : Int32) (st : XS) : Option Int32 := (xo_rd (st.1 18) 128 x1).bind fun v1 => if v1 ≤ (0 : Int32) then some (0 : Int32) else (xo_rd (st.1 18) 128 (x1 ||| ((1 : Int32) <<< ((st.1 0 0) &&& 31)))).bind fun v2 => if v2 ≤ (0 : Int32) then some (0 : Int32) else some (1 : Int32)
def F_Mod_next_b128 (st : XS) (x5 : Int32) (x6 : Int32) : Option ((Int32 × Int32) ⊕ Int32) := if ((1 : Int32) <<< ((st.1 0 0) &&& 31)) ≤ x6 then some (.inr x5) else (F_Mod_cuts x6 st).bind fun v1 => if v1 = (0 : Int32) then xo_nm (x6 + (1 : Int32)) fun v2 => some (.inl (x5, v2)) else xo_nm (x5 + (1 : Int32)) fun v3 => xo_nm (x6 + (1 : Int32)) fun v4 => some (.inl (v3, v4))
def F_Mod_next_m92  (st : XS) : Option (Int32 × XS) := xo_bn (F_Mod_no (-3 : Int32) st) fun v5 t6 => some (v5, t6)
def F_Mod_next_m79 (x1 : Int32) (x2 : Int32) (x3 : Int32) (x4 : Int32) (st : XS) : Option (Int32 × XS) := (F_Mod_isDirection x1 x2 (st.1 0 0) st).bind fun v7 => if v7 = (0 : Int32) then (F_Mod_think x1 x2 x3 st).bind fun t8 => (F_Mod_lay ((t8.1 0 0) + (1 : Int32)) t8).bind fun t9 => if x4 = (-1 : Int32) then (xo_lp (fun q : (Int32 × Int32) => F_Mod_next_b128 t9 q.1 q.2) 1000000 ((0 : Int32), (0 : Int32))).bind (fun o10 => some (o10, t9)) else (F_Mod_whereIs x4 t9).bind fun v11 => if v11 = (-9 : Int32) then some ((-9 : Int32), t9) else (F_Mod_cuts v11 t9).bind fun v12 => if v12 = (0 : Int32) then some ((0 : Int32), t9) else some ((1 : Int32), t9) else F_Mod_next_m92 st
def F_Mod_next_m64  (st : XS) : Option (Int32 × XS) := xo_bn (F_Mod_no (-6 : Int32) st) fun v13 t14 => some (v13, t14)
def F_Mod_next_m39  (st : XS) : Option (Int32 × XS) := xo_bn (F_Mod_no (-4 : Int32) st) fun v15 t16 => some (v15, t16)
def F_Mod_next_m21 (x1 : Int32) (x2 : Int32) (x3 : Int32) (x4 : Int32) (st : XS) : Option (Int32 × XS) := if x1 < (-9 : Int32) then F_Mod_next_m39 st else if x2 < (-9 : Int32) then F_Mod_next_m39 st else if (-99 : Int32) ≤ x3 then if (9 : Int32) < x1 then F_Mod_next_m64 st else if (9 : Int32) < x2 then F_Mod_next_m64 st else if x3 ≤ (99 : Int32) then if x1 = (0 : Int32) then if x2 = (0 : Int32) then F_Mod_next_m92 st else F_Mod_next_m79 x1 x2 x3 x4 st else F_Mod_next_m79 x1 x2 x3 x4 st else F_Mod_next_m64 st else F_Mod_next_m39 st
def F_Mod_next (x1 : Int32) (x2 : Int32) (x3 : Int32) (x4 : Int32) (st : XS) : Option (Int32 × XS) := if x4 = (-1 : Int32) then F_Mod_next_m21 x1 x2 x3 x4 st else (F_Mod_isPlot x4 st).bind fun v17 => if v17 = (0 : Int32) then xo_bn (F_Mod_no (-1 : Int32) st) fun v18 t19 => some (v18, t19) else F_Mod_next_m21 x1 x2 x3 x4 st
def F_Mod_through_m69 (x1 : Int32) (x2 : Int32) (x3 : Int32) (st : XS) : Option (Int32 × XS) := (xo_rd (st.1 6) 8 x3).bind fun v1 => (xo_rd (st.1 7) 8 x3).bind fun v2 => some (((x1 * v1) + (x2 * v2)), st)
def F_Mod_through_m45  (st : XS) : Option (Int32 × XS) := xo_bn (F_Mod_noFar (-6 : Int32) st) fun v3 t4 => some (v3, t4)
def F_Mod_through_m26  (st : XS) : Option (Int32 × XS) := xo_bn (F_Mod_noFar (-4 : Int32) st) fun v5 t6 => some (v5, t6)
def F_Mod_through (x1 : Int32) (x2 : Int32) (x3 : Int32) (st : XS) : Option (Int32 × XS) := (F_Mod_isPlot x3 st).bind fun v7 => if v7 = (0 : Int32) then xo_bn (F_Mod_noFar (-1 : Int32) st) fun v8 t9 => some (v8, t9) else if x1 < (-9 : Int32) then F_Mod_through_m26 st else if (-9 : Int32) ≤ x2 then if (9 : Int32) < x1 then F_Mod_through_m45 st else if x2 ≤ (9 : Int32) then if x1 = (0 : Int32) then if x2 = (0 : Int32) then xo_bn (F_Mod_noFar (-3 : Int32) st) fun v10 t11 => some (v10, t11) else F_Mod_through_m69 x1 x2 x3 st else F_Mod_through_m69 x1 x2 x3 st else F_Mod_through_m45 st else F_Mod_through_m26 st
def F_Mod_spare_b98 (x1 : Int32) (x2 : Int32) (x3 : Int32) (st : XS) (x4 : Int32) (x5 : Int32) : Option ((Int32 × Int32) ⊕ Int32) := if (st.1 0 5) ≤ x5 then some (.inr x4) else (F_Mod_whereIs x5 st).bind fun v1 => (xo_rd (st.1 6) 8 x5).bind fun v2 => (xo_rd (st.1 7) 8 x5).bind fun v3 => if ((x1 * v2) + (x2 * v3)) = x3 then xo_nm (x5 + (1 : Int32)) fun v4 => some (.inl ((0 : Int32), v4)) else if v1 = (-9 : Int32) then xo_nm (x5 + (1 : Int32)) fun v5 => some (.inl (x4, v5)) else (F_Mod_cuts v1 st).bind fun v6 => if v6 = (0 : Int32) then xo_nm (x5 + (1 : Int32)) fun v7 => some (.inl (x4, v7)) else xo_nm (x5 + (1 : Int32)) fun v8 => some (.inl ((0 : Int32), v8))
def F_Mod_spare_b69 (x1 : Int32) (x2 : Int32) (x3 : Int32) (st : XS) : Option ((Int32 × XS) ⊕ ((Int32 × XS) ⊕ XS)) := if (100 : Int32) ≤ x3 then some (.inr (.inr st)) else (F_Mod_think x1 x2 x3 st).bind fun t9 => (F_Mod_lay ((t9.1 0 0) + (1 : Int32)) t9).bind fun t10 => (xo_lp (fun q : (Int32 × Int32) => F_Mod_spare_b98 x1 x2 x3 t10 q.1 q.2) 1000000 ((1 : Int32), (0 : Int32))).bind (fun o11 => if o11 = (0 : Int32) then xo_nm (x3 + (1 : Int32)) fun v12 => some (.inl (v12, t10)) else some (.inr (.inl (x3, t10))))
def F_Mod_spare_m59  (st : XS) : Option (Int32 × XS) := xo_bn (F_Mod_noFar (-3 : Int32) st) fun v13 t14 => some (v13, t14)
def F_Mod_spare_m46 (x1 : Int32) (x2 : Int32) (st : XS) : Option (Int32 × XS) := (F_Mod_isDirection x1 x2 (st.1 0 0) st).bind fun v15 => if v15 = (0 : Int32) then (xo_lp (fun q : (Int32 × XS) => F_Mod_spare_b69 x1 x2 q.1 q.2) 1000000 ((-99 : Int32), st)).bind (Sum.elim (xo_u2 fun o16 t17 => some (o16, t17)) (fun t18 => some ((-999 : Int32), t18))) else F_Mod_spare_m59 st
def F_Mod_spare_m31  (st : XS) : Option (Int32 × XS) := xo_bn (F_Mod_noFar (-6 : Int32) st) fun v19 t20 => some (v19, t20)
def F_Mod_spare_m12  (st : XS) : Option (Int32 × XS) := xo_bn (F_Mod_noFar (-4 : Int32) st) fun v21 t22 => some (v21, t22)
def F_Mod_spare (x1 : Int32) (x2 : Int32) (st : XS) : Option (Int32 × XS) := if x1 < (-9 : Int32) then F_Mod_spare_m12 st else if (-9 : Int32) ≤ x2 then if (9 : Int32) < x1 then F_Mod_spare_m31 st else if x2 ≤ (9 : Int32) then if x1 = (0 : Int32) then if x2 = (0 : Int32) then F_Mod_spare_m59 st else F_Mod_spare_m46 x1 x2 st else F_Mod_spare_m46 x1 x2 st else F_Mod_spare_m31 st else F_Mod_spare_m12 st
def F_Mod_most_b105 (x1 : Int32) (x2 : Int32) (x3 : Int32) (x4 : Int32) (x6 : Int32) (st : XS) (x5 : Int32) (x7 : Int32) : Option ((Int32 × Int32) ⊕ Int32) := if x6 ≤ x7 then some (.inr x5) else (F_Mod_isFirst x7 x6 st).bind fun v1 => if v1 = (0 : Int32) then xo_nm (x7 + (1 : Int32)) fun v2 => some (.inl (x5, v2)) else (F_Mod_sideOfCrossing (st.1 0 0) x7 x6 st).bind fun v3 => if v3 = (0 : Int32) then xo_nm (x5 + (1 : Int32)) fun v4 => xo_nm (x7 + (1 : Int32)) fun v5 => some (.inl (v4, v5)) else xo_nm (x7 + (1 : Int32)) fun v6 => some (.inl (x5, v6))
def F_Mod_most_b93 (x1 : Int32) (x2 : Int32) (x3 : Int32) (x4 : Int32) (st : XS) (x5 : Int32) (x6 : Int32) : Option ((Int32 × Int32) ⊕ Int32) := if (st.1 0 0) ≤ x6 then some (.inr x5) else (xo_lp (fun q : (Int32 × Int32) => F_Mod_most_b105 x1 x2 x3 x4 x6 st q.1 q.2) 1000000 (x5, (0 : Int32))).bind (fun o7 => xo_nm (x6 + (1 : Int32)) fun v8 => some (.inl (o7, v8)))
def F_Mod_most_b72 (x1 : Int32) (x2 : Int32) (x3 : Int32) (x4 : Int32) (st : XS) : Option ((Int32 × Int32 × XS) ⊕ (Int32 × XS)) := if (100 : Int32) ≤ x4 then some (.inr (x3, st)) else (F_Mod_think x1 x2 x4 st).bind fun t9 => (xo_lp (fun q : (Int32 × Int32) => F_Mod_most_b93 x1 x2 x3 x4 t9 q.1 q.2) 1000000 ((0 : Int32), (0 : Int32))).bind (fun o10 => xo_nm ((if x3 < o10 then o10 else x3)) fun v11 => xo_nm (x4 + (1 : Int32)) fun v12 => some (.inl (v11, v12, t9)))
def F_Mod_most_m59  (st : XS) : Option (Int32 × XS) := xo_bn (F_Mod_no (-3 : Int32) st) fun v13 t14 => some (v13, t14)
def F_Mod_most_m46 (x1 : Int32) (x2 : Int32) (st : XS) : Option (Int32 × XS) := (F_Mod_isDirection x1 x2 (st.1 0 0) st).bind fun v15 => if v15 = (0 : Int32) then (xo_lp (fun q : (Int32 × Int32 × XS) => F_Mod_most_b72 x1 x2 q.1 q.2.1 q.2.2) 1000000 ((0 : Int32), (-99 : Int32), st)).bind (xo_u2 fun o16 t17 => some (o16, t17)) else F_Mod_most_m59 st
def F_Mod_most_m31  (st : XS) : Option (Int32 × XS) := xo_bn (F_Mod_no (-6 : Int32) st) fun v18 t19 => some (v18, t19)
def F_Mod_most_m12  (st : XS) : Option (Int32 × XS) := xo_bn (F_Mod_no (-4 : Int32) st) fun v20 t21 => some (v20, t21)
def F_Mod_most (x1 : Int32) (x2 : Int32) (st : XS) : Option (Int32 × XS) := if x1 < (-9 : Int32) then F_Mod_most_m12 st else if (-9 : Int32) ≤ x2 then if (9 : Int32) < x1 then F_Mod_most_m31 st else if x2 ≤ (9 : Int32) then if x1 = (0 : Int32) then if x2 = (0 : Int32) then F_Mod_most_m59 st else F_Mod_most_m46 x1 x2 st else F_Mod_most_m46 x1 x2 st else F_Mod_most_m31 st else F_Mod_most_m12 st
def F_Mod_fear_b106 (x2 : Int32) (x3 : Int32) (x6 : Int32) (x7 : Int32) (x4 : Int32) (x5 : Int32) (x8 : Int32) (st : XS) : Option ((Int32 × Int32 × Int32 × XS) ⊕ (Int32 × Int32 × XS)) := if (10 : Int32) ≤ x8 then some (.inr (x4, x5, st)) else xo_nm (x4 + (1 : Int32)) fun v1 => if x2 = (1 : Int32) then xo_nm (x8 + (1 : Int32)) fun v2 => some (.inl (v1, x5, v2, st)) else (F_Mod_think x6 x7 x8 st).bind fun t3 => (F_Mod_lay ((t3.1 0 0) + (1 : Int32)) t3).bind fun t4 => (F_Mod_cuts x3 t4).bind fun v5 => if v5 = (0 : Int32) then xo_nm (x8 + (1 : Int32)) fun v6 => some (.inl (v1, x5, v6, t4)) else xo_nm (x5 + (1 : Int32)) fun v7 => xo_nm (x8 + (1 : Int32)) fun v8 => some (.inl (v1, v7, v8, t4))
def F_Mod_fear_m84 (x2 : Int32) (x3 : Int32) (x4 : Int32) (x5 : Int32) (x6 : Int32) (x7 : Int32) (st : XS) : Option ((Int32 × Int32 × Int32 × XS) ⊕ (Int32 × Int32 × XS)) := (F_Mod_isDirection x6 x7 (st.1 0 0) st).bind fun v9 => if v9 = (0 : Int32) then (xo_lp (fun q : (Int32 × Int32 × Int32 × XS) => F_Mod_fear_b106 x2 x3 x6 x7 q.1 q.2.1 q.2.2.1 q.2.2.2) 1000000 (x4, x5, (-9 : Int32), st)).bind (xo_u3 fun o10 o11 t12 => xo_nm (x7 + (1 : Int32)) fun v13 => some (.inl (o10, o11, v13, t12))) else xo_nm (x7 + (1 : Int32)) fun v14 => some (.inl (x4, x5, v14, st))
def F_Mod_fear_b68 (x2 : Int32) (x3 : Int32) (x6 : Int32) (x4 : Int32) (x5 : Int32) (x7 : Int32) (st : XS) : Option ((Int32 × Int32 × Int32 × XS) ⊕ (Int32 × Int32 × XS)) := if (3 : Int32) ≤ x7 then some (.inr (x4, x5, st)) else if x6 = (0 : Int32) then if x7 = (0 : Int32) then xo_nm (x7 + (1 : Int32)) fun v15 => some (.inl (x4, x5, v15, st)) else F_Mod_fear_m84 x2 x3 x4 x5 x6 x7 st else F_Mod_fear_m84 x2 x3 x4 x5 x6 x7 st
def F_Mod_fear_b58 (x2 : Int32) (x3 : Int32) (x4 : Int32) (x5 : Int32) (x6 : Int32) (st : XS) : Option ((Int32 × Int32 × Int32 × XS) ⊕ (Int32 × Int32 × XS)) := if (3 : Int32) ≤ x6 then some (.inr (x4, x5, st)) else (xo_lp (fun q : (Int32 × Int32 × Int32 × XS) => F_Mod_fear_b68 x2 x3 x6 q.1 q.2.1 q.2.2.1 q.2.2.2) 1000000 (x4, x5, (-2 : Int32), st)).bind (xo_u3 fun o16 o17 t18 => xo_nm (x6 + (1 : Int32)) fun v19 => some (.inl (o16, o17, v19, t18)))
def F_Mod_fear_m49 (x2 : Int32) (x3 : Int32) (st : XS) : Option (Int32 × XS) := (xo_lp (fun q : (Int32 × Int32 × Int32 × XS) => F_Mod_fear_b58 x2 x3 q.1 q.2.1 q.2.2.1 q.2.2.2) 1000000 ((0 : Int32), (0 : Int32), (0 : Int32), st)).bind (xo_u3 fun o20 o21 t22 => if x2 = (0 : Int32) then some (o21, t22) else some (o20, t22))
def F_Mod_fear (x1 : Int32) (x2 : Int32) (st : XS) : Option (Int32 × XS) := (F_Mod_isPlot x1 st).bind fun v23 => if v23 = (0 : Int32) then xo_bn (F_Mod_no (-1 : Int32) st) fun v24 t25 => some (v24, t25) else (F_Mod_within x2 (0 : Int32) (1 : Int32)).bind fun v26 => if v26 = (0 : Int32) then xo_bn (F_Mod_no (-2 : Int32) st) fun v27 t28 => some (v27, t28) else (F_Mod_whereIs x1 st).bind fun v29 => if x2 = (0 : Int32) then if v29 = (-9 : Int32) then some ((-9 : Int32), st) else F_Mod_fear_m49 x2 v29 st else F_Mod_fear_m49 x2 v29 st
def F_Mod_without (x1 : Int32) (st : XS) : Option (Int32 × XS) := (xo_rd (st.1 2) 7 x1).bind fun v1 => (xo_rd (st.1 3) 7 x1).bind fun v2 => (xo_rd (st.1 4) 7 x1).bind fun v3 => xo_nm (((st.1 0 0) - (1 : Int32))) fun v4 => (xo_rd (st.1 2) 7 v4).bind fun v5 => (xo_ck 7 x1).bind fun _ => xo_nm (xs_A st 2 (upd (st.1 2) (x1).toNatClampNeg v5)) fun t6 => (xo_rd (t6.1 3) 7 v4).bind fun v7 => (xo_ck 7 x1).bind fun _ => xo_nm (xs_A t6 3 (upd (t6.1 3) (x1).toNatClampNeg v7)) fun t8 => (xo_rd (t8.1 4) 7 v4).bind fun v9 => (xo_ck 7 x1).bind fun _ => xo_nm (xs_A t8 4 (upd (t8.1 4) (x1).toNatClampNeg v9)) fun t10 => (F_Mod_lay v4 t10).bind fun t11 => (F_Mod_howMany t11).bind fun v12 => (xo_ck 7 x1).bind fun _ => xo_nm (xs_A t11 2 (upd (t11.1 2) (x1).toNatClampNeg v1)) fun t13 => (xo_ck 7 x1).bind fun _ => xo_nm (xs_A t13 3 (upd (t13.1 3) (x1).toNatClampNeg v2)) fun t14 => (xo_ck 7 x1).bind fun _ => xo_nm (xs_A t14 4 (upd (t14.1 4) (x1).toNatClampNeg v3)) fun t15 => some (v12, t15)
def F_Mod_taken_m65 (x4 : Int32) (x5 : Int32) (st : XS) : Option ((Int32 × Int32 × Int32 × XS) ⊕ (Int32 × XS)) := xo_nm (x4 + (1 : Int32)) fun v1 => some (.inl (x4, x5, v1, st))
def F_Mod_taken_b35 (x2 : Int32) (x3 : Int32) (x4 : Int32) (st : XS) : Option ((Int32 × Int32 × Int32 × XS) ⊕ (Int32 × XS)) := if (st.1 0 0) ≤ x4 then some (.inr (x2, st)) else xo_bn (F_Mod_without x4 st) fun v2 t3 => if x2 < (0 : Int32) then F_Mod_taken_m65 x4 v2 t3 else if v2 < x3 then F_Mod_taken_m65 x4 v2 t3 else xo_nm (x4 + (1 : Int32)) fun v4 => some (.inl (x2, x3, v4, t3))
def F_Mod_taken (x1 : Int32) (st : XS) : Option (Int32 × XS) := if x1 = (-1 : Int32) then (xo_lp (fun q : (Int32 × Int32 × Int32 × XS) => F_Mod_taken_b35 q.1 q.2.1 q.2.2.1 q.2.2.2) 1000000 ((-9 : Int32), (0 : Int32), (0 : Int32), st)).bind (xo_u2 fun o5 t6 => some (o5, t6)) else (F_Mod_isStreet x1 st).bind fun v7 => if v7 = (0 : Int32) then xo_bn (F_Mod_no (-1 : Int32) st) fun v8 t9 => some (v8, t9) else xo_bn (F_Mod_without x1 st) fun v10 t11 => some (v10, t11)
def F_Mod_row_m26  (st : XS) : Option (Int32 × XS) := xo_bn (F_Mod_no (-6 : Int32) st) fun v1 t2 => some (v1, t2)
def F_Mod_row (x1 : Int32) (st : XS) : Option (Int32 × XS) := if (0 : Int32) ≤ x1 then if (63 : Int32) < x1 then F_Mod_row_m26 st else if (st.1 0 12) = (12 : Int32) then F_Mod_row_m26 st else xo_nm (xs_I st 0 12 ((st.1 0 12) + (1 : Int32))) fun t3 => (xo_ck 12 (st.1 0 12)).bind fun _ => xo_nm (xs_A t3 13 (upd (t3.1 13) ((st.1 0 12)).toNatClampNeg x1)) fun t4 => some ((t4.1 0 12), t4) else xo_bn (F_Mod_no (-4 : Int32) st) fun v5 t6 => some (v5, t6)
def F_Mod_judge_b12 (x1 : Int32) (x2 : Int32) (st : XS) : Option ((Int32 × XS) ⊕ ((Int32 × XS) ⊕ XS)) := if x1 ≤ x2 then some (.inr (.inr st)) else (xo_rd (st.1 13) 12 x2).bind fun v1 => xo_bn (F_Mod_isQuarter v1 st) fun v2 t3 => if v2 = (0 : Int32) then some (.inr (.inl (x2, t3))) else if x2 ≤ (0 : Int32) then xo_nm (x2 + (1 : Int32)) fun v4 => some (.inl (v4, t3)) else (xo_rd (t3.1 13) 12 x2).bind fun v5 => (xo_rd (t3.1 13) 12 (x2 - (1 : Int32))).bind fun v6 => (F_Int_bitCount (v5 ^^^ v6)).bind fun v7 => if v7 = (1 : Int32) then xo_nm (x2 + (1 : Int32)) fun v8 => some (.inl (v8, t3)) else some (.inr (.inl (x2, t3)))
def F_Mod_judge (st : XS) : Option (Int32 × XS) := xo_nm ((st.1 0 12)) fun v9 => xo_nm (xs_I st 0 12 (0 : Int32)) fun t10 => (xo_lp (fun q : (Int32 × XS) => F_Mod_judge_b12 v9 q.1 q.2) 1000000 ((0 : Int32), t10)).bind (Sum.elim (xo_u2 fun o11 t12 => some (o11, t12)) (fun t13 => some ((-9 : Int32), t13)))
def F_Mod_seeds_b33 (x1 : Int32) (st : XS) (x3 : Int32) (x4 : Int64) (x6 : Int32) : Option ((Int32 × Int64 × Int32) ⊕ Int64) := if x1 ≤ x6 then some (.inr x4) else xo_nm (((x3 * (1664525 : Int32)) + (1013904223 : Int32))) fun v1 => (xo_dv (v1 &&& (2147483647 : Int32)) (256 : Int32)).bind fun v2 => (xo_rm v2 (41 : Int32)).bind fun v3 => xo_nm ((v3 - (20 : Int32))) fun v4 => xo_nm (((v1 * (1664525 : Int32)) + (1013904223 : Int32))) fun v5 => (xo_dv (v5 &&& (2147483647 : Int32)) (256 : Int32)).bind fun v6 => (xo_rm v6 (41 : Int32)).bind fun v7 => xo_nm ((v7 - (20 : Int32))) fun v8 => (F_Mod_at v4 v8 st).bind fun v9 => if v9 = (-9 : Int32) then xo_nm (x6 + (1 : Int32)) fun v10 => some (.inl (v5, x4, v10)) else xo_nm ((x4 ||| ((1 : Int64) <<< (v9.toInt64 &&& 63)))) fun v11 => xo_nm (x6 + (1 : Int32)) fun v12 => some (.inl (v5, v11, v12))
def F_Mod_seeds (x1 : Int32) (x2 : Int32) (st : XS) : Option (Int32 × XS) := if (1 : Int32) ≤ x1 then if x1 ≤ (30 : Int32) then (xo_lp (fun q : (Int32 × Int64 × Int32) => F_Mod_seeds_b33 x1 st q.1 q.2.1 q.2.2) 1000000 (x2, (0 : Int64), (0 : Int32))).bind (fun o13 => (F_Lng_bitCount o13).bind fun v14 => some (v14, st)) else xo_bn (F_Mod_no (-6 : Int32) st) fun v15 t16 => some (v15, t16) else xo_bn (F_Mod_no (-4 : Int32) st) fun v17 t18 => some (v17, t18)
def F_Mod_keep_v1_b61 (x2 : Int32) (st : XS) : Option ((Int32 × XS) ⊕ XS) := if (8 : Int32) ≤ x2 then some (.inr st) else (xo_rd (st.1 6) 8 x2).bind fun v1 => (xo_ck 46 ((24 : Int32) + x2)).bind fun _ => xo_nm (xs_A st 16 (upd (st.1 16) (((24 : Int32) + x2)).toNatClampNeg v1)) fun t2 => (xo_rd (t2.1 7) 8 x2).bind fun v3 => (xo_ck 46 ((32 : Int32) + x2)).bind fun _ => xo_nm (xs_A t2 16 (upd (t2.1 16) (((32 : Int32) + x2)).toNatClampNeg v3)) fun t4 => xo_nm (x2 + (1 : Int32)) fun v5 => some (.inl (v5, t4))
def F_Mod_keep_v1_b2 (x2 : Int32) (st : XS) : Option ((Int32 × XS) ⊕ XS) := if (6 : Int32) ≤ x2 then some (.inr st) else (xo_rd (st.1 1) 7 x2).bind fun v6 => (xo_ck 46 x2).bind fun _ => xo_nm (xs_A st 16 (upd (st.1 16) (x2).toNatClampNeg v6)) fun t7 => (xo_rd (t7.1 2) 7 x2).bind fun v8 => (xo_ck 46 ((6 : Int32) + x2)).bind fun _ => xo_nm (xs_A t7 16 (upd (t7.1 16) (((6 : Int32) + x2)).toNatClampNeg v8)) fun t9 => (xo_rd (t9.1 3) 7 x2).bind fun v10 => (xo_ck 46 ((12 : Int32) + x2)).bind fun _ => xo_nm (xs_A t9 16 (upd (t9.1 16) (((12 : Int32) + x2)).toNatClampNeg v10)) fun t11 => (xo_rd (t11.1 4) 7 x2).bind fun v12 => (xo_ck 46 ((18 : Int32) + x2)).bind fun _ => xo_nm (xs_A t11 16 (upd (t11.1 16) (((18 : Int32) + x2)).toNatClampNeg v12)) fun t13 => xo_nm (x2 + (1 : Int32)) fun v14 => some (.inl (v14, t13))
def F_Mod_keep_v1 (st : XS) : Option XS := (xo_lp (fun q : (Int32 × XS) => F_Mod_keep_v1_b2 q.1 q.2) 1000000 ((0 : Int32), st)).bind (fun t15 => (xo_lp (fun q : (Int32 × XS) => F_Mod_keep_v1_b61 q.1 q.2) 1000000 ((0 : Int32), t15)).bind (fun t16 => (xo_ck 46 (40 : Int32)).bind fun _ => xo_nm (xs_A t16 16 (upd (t16.1 16) ((40 : Int32)).toNatClampNeg (t16.1 0 0))) fun t17 => (xo_ck 46 (41 : Int32)).bind fun _ => xo_nm (xs_A t17 16 (upd (t17.1 16) ((41 : Int32)).toNatClampNeg (t17.1 0 5))) fun t18 => some t18))
def F_Mod_image (st : XS) : Option (Int32 × XS) := xo_nm (xs_I st 0 15 (1 : Int32)) fun t1 => (F_Mod_keep_v1 t1).bind fun t2 => some ((t2.1 0 0), t2)
def F_Mod_again_v1_b61 (x2 : Int32) (st : XS) : Option ((Int32 × XS) ⊕ XS) := if (8 : Int32) ≤ x2 then some (.inr st) else (xo_rd (st.1 16) 46 ((24 : Int32) + x2)).bind fun v1 => (xo_ck 8 x2).bind fun _ => xo_nm (xs_A st 6 (upd (st.1 6) (x2).toNatClampNeg v1)) fun t2 => (xo_rd (t2.1 16) 46 ((32 : Int32) + x2)).bind fun v3 => (xo_ck 8 x2).bind fun _ => xo_nm (xs_A t2 7 (upd (t2.1 7) (x2).toNatClampNeg v3)) fun t4 => xo_nm (x2 + (1 : Int32)) fun v5 => some (.inl (v5, t4))
def F_Mod_again_v1_b2 (x2 : Int32) (st : XS) : Option ((Int32 × XS) ⊕ XS) := if (6 : Int32) ≤ x2 then some (.inr st) else (xo_rd (st.1 16) 46 x2).bind fun v6 => (xo_ck 7 x2).bind fun _ => xo_nm (xs_A st 1 (upd (st.1 1) (x2).toNatClampNeg v6)) fun t7 => (xo_rd (t7.1 16) 46 ((6 : Int32) + x2)).bind fun v8 => (xo_ck 7 x2).bind fun _ => xo_nm (xs_A t7 2 (upd (t7.1 2) (x2).toNatClampNeg v8)) fun t9 => (xo_rd (t9.1 16) 46 ((12 : Int32) + x2)).bind fun v10 => (xo_ck 7 x2).bind fun _ => xo_nm (xs_A t9 3 (upd (t9.1 3) (x2).toNatClampNeg v10)) fun t11 => (xo_rd (t11.1 16) 46 ((18 : Int32) + x2)).bind fun v12 => (xo_ck 7 x2).bind fun _ => xo_nm (xs_A t11 4 (upd (t11.1 4) (x2).toNatClampNeg v12)) fun t13 => xo_nm (x2 + (1 : Int32)) fun v14 => some (.inl (v14, t13))
def F_Mod_again_v1 (st : XS) : Option XS := (xo_lp (fun q : (Int32 × XS) => F_Mod_again_v1_b2 q.1 q.2) 1000000 ((0 : Int32), st)).bind (fun t15 => (xo_lp (fun q : (Int32 × XS) => F_Mod_again_v1_b61 q.1 q.2) 1000000 ((0 : Int32), t15)).bind (fun t16 => (xo_rd (t16.1 16) 46 (40 : Int32)).bind fun v17 => xo_nm (xs_I t16 0 0 v17) fun t18 => (xo_rd (t18.1 16) 46 (41 : Int32)).bind fun v19 => xo_nm (xs_I t18 0 5 v19) fun t20 => some t20))
def F_Mod_on (st : XS) : Option (Int32 × XS) := if (st.1 0 15) = (0 : Int32) then xo_bn (F_Mod_no (-3 : Int32) st) fun v1 t2 => some (v1, t2) else (F_Mod_again_v1 st).bind fun t3 => some ((t3.1 0 0), t3)
def F_Mod_count (x1 : Int32) (st : XS) : Option Int32 := if x1 = (0 : Int32) then some (st.1 0 0) else if x1 = (1 : Int32) then some (st.1 0 5) else if x1 = (2 : Int32) then some (st.1 0 12) else if x1 = (3 : Int32) then some (st.1 0 8) else (F_Mod_within x1 (11 : Int32) (16 : Int32)).bind fun v1 => if v1 = (0 : Int32) then some (-9 : Int32) else (xo_rd (st.1 14) 7 (x1 - (10 : Int32))).bind fun v2 => some v2
end
section
/-! GEOMETRY, by whole numbers: a point is (x, y, w), w above 0; line s: a s, b s, c s; gh: how far on side 1 -/
def gz_h (a b c : Nat → Int) (s : Nat) (x y w : Int) : Int := a s * x + b s * y - c s * w
def gz_t (a b : Nat → Int) (p q : Int) (s : Nat) : Int := p * b s - q * a s
theorem gz_lg (a b : Int) : a < b ∨ b ≤ a := by omega
theorem gz_sq {x : Int} (hx : x ≠ 0) : 0 < x * x := by
  rcases Int.lt_or_gt_of_ne hx with h | h
  · exact Int.mul_pos_of_neg_of_neg h h
  · exact Int.mul_pos h h
theorem gz_p1 {x z u v : Int} (hx : x ≠ 0) (hu : 0 < u) (hv : 0 ≤ v) (h : 0 ≤ x * z) : 0 < x * (u * x + v * z) := by
  have h2 : 0 < u * (x * x) := Int.mul_pos hu (gz_sq hx)
  have h3 : 0 ≤ v * (x * z) := Int.mul_nonneg hv h
  have e : x * (u * x + v * z) = u * (x * x) + v * (x * z) := by grind
  omega
/-- N times z outweighs f -/
theorem gz_big {x z f N : Int} (h : 0 < x * z) (h1 : -N < f) (h2 : f < N) : 0 < x * (N * z + f) := by
  rcases Int.lt_trichotomy x 0 with hx | hx | hx
  · have hz : z < 0 := by
      rcases gz_lg z 0 with q | q
      · exact q
      · have := Int.mul_nonneg (show (0:Int) ≤ -x by omega) q
        have e : -x * z = -(x * z) := Int.neg_mul x z
        omega
    have h3 : N * z ≤ N * (-1) := Int.mul_le_mul_of_nonneg_left (by omega) (by omega)
    exact Int.mul_pos_of_neg_of_neg hx (by omega)
  · subst hx; simp at h
  · have hz : 0 < z := by
      rcases gz_lg 0 z with q | q
      · exact q
      · have := Int.mul_nonneg (show (0:Int) ≤ x by omega) (show (0:Int) ≤ -z by omega)
        have e : x * -z = -(x * z) := Int.mul_neg x z
        omega
    have h3 : N * 1 ≤ N * z := Int.mul_le_mul_of_nonneg_left (by omega) (by omega)
    exact Int.mul_pos hx (by omega)
theorem gz_N (f : Nat → Int) : ∀ n : Nat, ∃ N : Int, 0 < N ∧ ∀ s, s < n → -N < f s ∧ f s < N := by
  intro n
  induction n with
  | zero => exact ⟨1, by omega, fun s h => absurd h (by omega)⟩
  | succ n ih =>
    obtain ⟨N, h0, h⟩ := ih
    refine ⟨N + (if 0 ≤ f n then f n else - f n) + 1, by split <;> omega, fun s hs => ?_⟩
    rcases Nat.lt_or_ge s n with q | q
    · have := h s q
      split <;> omega
    · obtain rfl : s = n := by omega
      split <;> omega
theorem gz_lin (a b c : Nat → Int) (s : Nat) (u v x y w x2 y2 w2 : Int) : gz_h a b c s (u * x + v * x2) (u * y + v * y2) (u * w + v * w2) = u * gz_h a b c s x y w + v * gz_h a b c s x2 y2 w2 := by
  unfold gz_h; grind
theorem gz_dir (a b c : Nat → Int) (s : Nat) (p q : Int) : gz_h a b c s (-q) p 0 = gz_t a b p q s := by
  unfold gz_h gz_t; grind
theorem gz_foot (a b c : Nat → Int) (s : Nat) : gz_h a b c s (a s * c s) (b s * c s) (a s * a s + b s * b s) = 0 := by
  unfold gz_h; grind
theorem gz_nz {x y : Int} (h : x ≠ 0 ∨ y ≠ 0) : 0 < x * x + y * y := by
  have h1 : ∀ z : Int, 0 ≤ z * z := fun z => by
    rcases Int.lt_trichotomy z 0 with q | q | q
    · exact Int.le_of_lt (Int.mul_pos_of_neg_of_neg q q)
    · subst q; simp
    · exact Int.le_of_lt (Int.mul_pos q q)
  rcases h with h | h
  · have := gz_sq h; have := h1 y; omega
  · have := gz_sq h; have := h1 x; omega
/-- a region lies at a line: of the lines T there is one, and a point on it, that the rest see as they see X -/
theorem gz_adj {a b c : Nat → Int} {T : Nat → Prop} {x y w : Int} (hw : 0 < w) : ∀ n : Nat,
    (∀ s, s < n → T s → a s ≠ 0 ∨ b s ≠ 0) → (∀ i j, i < n → j < n → i ≠ j → T i → T j → gz_t a b (a i) (b i) j ≠ 0) → (∀ s, s < n → T s → gz_h a b c s x y w ≠ 0) → (∃ s, s < n ∧ T s) →
    ∃ k x2 y2 w2, k < n ∧ T k ∧ 0 < w2 ∧ gz_h a b c k x2 y2 w2 = 0 ∧ ∀ s, s < n → T s → s ≠ k → 0 < gz_h a b c s x y w * gz_h a b c s x2 y2 w2 := by
  intro n
  induction n with
  | zero => intro _ _ _ ⟨s, h, _⟩; omega
  | succ n ih =>
    intro h0 hd hX hT
    by_cases hTn : T n
    · by_cases hE : ∃ s, s < n ∧ T s
      · obtain ⟨k, x2, y2, w2, hk, hTk, hw2, hkz, hs⟩ := ih (fun s h => h0 s (by omega)) (fun i j hi hj => hd i j (by omega) (by omega)) (fun s h => hX s (by omega)) hE
        have hn0 := hX n (by omega) hTn
        rcases Int.lt_trichotomy (gz_h a b c n x y w * gz_h a b c n x2 y2 w2) 0 with hlt | heq | hgt
        · -- opposite: between them a point on n
          have hz0 : gz_h a b c n x2 y2 w2 ≠ 0 := fun e => by rw [e] at hlt; simp at hlt
          generalize hA : gz_h a b c n x y w = A at hlt hn0
          generalize hB : gz_h a b c n x2 y2 w2 = B at hlt hz0
          obtain ⟨u, v, hu, hv, huv⟩ : ∃ u v : Int, 0 < u ∧ 0 < v ∧ u * A + v * B = 0 := by
            rcases Int.lt_or_gt_of_ne hn0 with q | q
            · have hB0 : 0 < B := by
                rcases Int.lt_or_gt_of_ne hz0 with r | r
                · have := Int.mul_pos_of_neg_of_neg q r; omega
                · exact r
              exact ⟨B, -A, hB0, by omega, by grind⟩
            · have hB0 : B < 0 := by
                rcases Int.lt_or_gt_of_ne hz0 with r | r
                · exact r
                · have := Int.mul_pos q r; omega
              exact ⟨-B, A, by omega, q, by grind⟩
          refine ⟨n, u * x + v * x2, u * y + v * y2, u * w + v * w2, by omega, hTn, ?_, ?_, fun s hs' hTs hne => ?_⟩
          · have := Int.mul_pos hu hw; have := Int.mul_pos hv hw2; omega
          · rw [gz_lin, hA, hB]; exact huv
          · rw [gz_lin]
            refine gz_p1 (hX s (by omega) hTs) hu (Int.le_of_lt hv) ?_
            by_cases hsk : s = k
            · subst hsk; rw [hkz]; simp
            · exact Int.le_of_lt (hs s (by omega) hTs hsk)
        · -- on n already: a little along k
          have hz0 : gz_h a b c n x2 y2 w2 = 0 := by
            rcases Int.mul_eq_zero.mp heq with q | q
            · exact absurd q hn0
            · exact q
          have hdk := hd k n (by omega) (by omega) (by omega) hTk hTn
          obtain ⟨sg, hsg, hsp⟩ : ∃ sg : Int, (sg = 1 ∨ sg = -1) ∧ 0 < gz_h a b c n x y w * (sg * gz_t a b (a k) (b k) n) := by
            have hm : gz_h a b c n x y w * gz_t a b (a k) (b k) n ≠ 0 := Int.mul_ne_zero hn0 hdk
            rcases Int.lt_or_gt_of_ne hm with q | q
            · exact ⟨-1, Or.inr rfl, by have : gz_h a b c n x y w * (-1 * gz_t a b (a k) (b k) n) = -(gz_h a b c n x y w * gz_t a b (a k) (b k) n) := by grind
                                        omega⟩
            · exact ⟨1, Or.inl rfl, by rw [Int.one_mul]; exact q⟩
          obtain ⟨N, hN, hNs⟩ := gz_N (fun s => sg * gz_t a b (a k) (b k) s) n
          have hval : ∀ s, gz_h a b c s (N * x2 + sg * (-(b k))) (N * y2 + sg * a k) (N * w2 + sg * 0) = N * gz_h a b c s x2 y2 w2 + sg * gz_t a b (a k) (b k) s := fun s => by rw [gz_lin, gz_dir]
          refine ⟨k, N * x2 + sg * (-(b k)), N * y2 + sg * a k, N * w2 + sg * 0, by omega, hTk, ?_, ?_, fun s hs' hTs hne => ?_⟩
          · have := Int.mul_pos hN hw2; omega
          · rw [hval, hkz]
            have : gz_t a b (a k) (b k) k = 0 := by unfold gz_t; grind
            rw [this]; simp
          · rw [hval]
            rcases Nat.lt_or_ge s n with q | q
            · exact gz_big (hs s q hTs hne) (hNs s q).1 (hNs s q).2
            · obtain rfl : s = n := by omega
              rw [hz0]
              have e : N * 0 + sg * gz_t a b (a k) (b k) s = sg * gz_t a b (a k) (b k) s := by simp
              rw [e]; exact hsp
        · refine ⟨k, x2, y2, w2, by omega, hTk, hw2, hkz, fun s hs' hTs hne => ?_⟩
          rcases Nat.lt_or_ge s n with q | q
          · exact hs s q hTs hne
          · obtain rfl : s = n := by omega
            exact hgt
      · refine ⟨n, a n * c n, b n * c n, a n * a n + b n * b n, by omega, hTn, gz_nz (h0 n (by omega) hTn), gz_foot a b c n, fun s hs hTs hne => ?_⟩
        exact absurd ⟨s, by omega, hTs⟩ hE
    · obtain ⟨s1, hs1, hTs1⟩ := hT
      obtain ⟨k, x2, y2, w2, hk, hTk, hw2, hkz, hs⟩ := ih (fun s h => h0 s (by omega)) (fun i j hi hj => hd i j (by omega) (by omega)) (fun s h => hX s (by omega)) ⟨s1, by
        rcases Nat.lt_or_ge s1 n with q | q
        · exact q
        · obtain rfl : s1 = n := by omega
          exact absurd hTs1 hTn, hTs1⟩
      refine ⟨k, x2, y2, w2, by omega, hTk, hw2, hkz, fun s hs' hTs hne => ?_⟩
      rcases Nat.lt_or_ge s n with q | q
      · exact hs s q hTs hne
      · obtain rfl : s = n := by omega
        exact absurd hTs hTn
/-- of fractions be s / al s (al above 0) the least above 0, if there is one -/
theorem gz_least {al be : Nat → Int} {T : Nat → Prop} : ∀ n : Nat, (∀ s, s < n → T s → 0 < al s ∧ be s ≠ 0) →
    (∀ t, t < n → T t → be t < 0) ∨ ∃ s, s < n ∧ T s ∧ 0 < be s ∧ ∀ t, t < n → T t → be t < 0 ∨ be s * al t ≤ be t * al s := by
  intro n
  induction n with
  | zero => intro _; exact Or.inl (fun t h => absurd h (by omega))
  | succ n ih =>
    intro h
    by_cases hTn : T n
    · obtain ⟨hal, hbe⟩ := h n (by omega) hTn
      rcases ih (fun s hs => h s (by omega)) with hA | ⟨s, hs, hTs, hb, hm⟩
      · rcases Int.lt_or_gt_of_ne hbe with q | q
        · refine Or.inl (fun t ht hTt => ?_)
          rcases Nat.lt_or_ge t n with r | r
          · exact hA t r hTt
          · obtain rfl : t = n := by omega
            exact q
        · refine Or.inr ⟨n, by omega, hTn, q, fun t ht hTt => ?_⟩
          rcases Nat.lt_or_ge t n with r | r
          · exact Or.inl (hA t r hTt)
          · obtain rfl : t = n := by omega
            exact Or.inr (Int.le_refl _)
      · obtain ⟨hals, -⟩ := h s (by omega) hTs
        rcases Int.lt_or_gt_of_ne hbe with q | q
        · refine Or.inr ⟨s, by omega, hTs, hb, fun t ht hTt => ?_⟩
          rcases Nat.lt_or_ge t n with r | r
          · exact hm t r hTt
          · obtain rfl : t = n := by omega
            exact Or.inl q
        · rcases gz_lg (be n * al s) (be s * al n) with r | r
          · refine Or.inr ⟨n, by omega, hTn, q, fun t ht hTt => ?_⟩
            rcases Nat.lt_or_ge t n with r2 | r2
            · rcases hm t r2 hTt with m1 | m1
              · exact Or.inl m1
              · right
                obtain ⟨halt, -⟩ := h t (by omega) hTt
                have e1 : be s * al t * al n ≤ be t * al s * al n := Int.mul_le_mul_of_nonneg_right m1 (Int.le_of_lt hal)
                have e2 : be n * al s * al t ≤ be s * al n * al t := Int.mul_le_mul_of_nonneg_right (Int.le_of_lt r) (Int.le_of_lt halt)
                have e3 : (be n * al t) * al s ≤ (be t * al n) * al s := by
                  have i1 : be s * al t * al n = be s * al n * al t := by grind
                  have i2 : be n * al s * al t = (be n * al t) * al s := by grind
                  have i3 : be t * al s * al n = (be t * al n) * al s := by grind
                  omega
                exact Int.le_of_mul_le_mul_right e3 hals
            · obtain rfl : t = n := by omega
              exact Or.inr (Int.le_refl _)
          · refine Or.inr ⟨s, by omega, hTs, hb, fun t ht hTt => ?_⟩
            rcases Nat.lt_or_ge t n with r2 | r2
            · exact hm t r2 hTt
            · obtain rfl : t = n := by omega
              exact Or.inr r
    · rcases ih (fun s hs => h s (by omega)) with hA | ⟨s, hs, hTs, hb, hm⟩
      · refine Or.inl (fun t ht hTt => ?_)
        rcases Nat.lt_or_ge t n with r | r
        · exact hA t r hTt
        · obtain rfl : t = n := by omega
          exact absurd hTt hTn
      · refine Or.inr ⟨s, by omega, hTs, hb, fun t ht hTt => ?_⟩
        rcases Nat.lt_or_ge t n with r | r
        · exact hm t r hTt
        · obtain rfl : t = n := by omega
          exact absurd hTt hTn
end
section
/-! CUTS: the sides that one sees along a told line (p, q, r) -/
/-- the sign of a whole number, 1 or -1 -/
def gz_sg (x : Int) : Int := if x < 0 then -1 else 1
theorem gz_sg_pos {x : Int} (h : x ≠ 0) : 0 < gz_sg x * x := by
  unfold gz_sg; split <;> omega
theorem gz_sg_or (x : Int) : gz_sg x = 1 ∨ gz_sg x = -1 := by
  unfold gz_sg; split
  · exact Or.inr rfl
  · exact Or.inl rfl
/-- where the line (p, q, r) crosses street s; above 0 last -/
def gz_X (a b c : Nat → Int) (p q r : Int) (s : Nat) : Int := gz_sg (gz_t a b p q s) * (r * b s - q * c s)
def gz_Y (a b c : Nat → Int) (p q r : Int) (s : Nat) : Int := gz_sg (gz_t a b p q s) * (p * c s - r * a s)
def gz_W (a b : Nat → Int) (p q : Int) (s : Nat) : Int := gz_sg (gz_t a b p q s) * gz_t a b p q s
/-- how far the crossing of the line with s lies on side 1 of t -/
def gz_e (a b c : Nat → Int) (p q r : Int) (s t : Nat) : Int := gz_h a b c t (gz_X a b c p q r s) (gz_Y a b c p q r s) (gz_W a b p q s)
theorem gz_e_s (a b c : Nat → Int) (p q r : Int) (s : Nat) : gz_e a b c p q r s s = 0 := by
  unfold gz_e gz_h gz_X gz_Y gz_W gz_t
  generalize gz_sg (p * b s - q * a s) = g
  grind
theorem gz_e_line {a b c : Nat → Int} {p q r : Int} {s k : Nat} (h : a k = p ∧ b k = q ∧ c k = r) : gz_e a b c p q r s k = 0 := by
  obtain ⟨h1, h2, h3⟩ := h
  unfold gz_e gz_h gz_X gz_Y gz_W gz_t
  rw [h1, h2, h3]
  generalize gz_sg (p * b s - q * a s) = g
  grind
theorem gz_W_pos {a b : Nat → Int} {p q : Int} {s : Nat} (h : gz_t a b p q s ≠ 0) : 0 < gz_W a b p q s := gz_sg_pos h
theorem gz_onL (a b c : Nat → Int) (p q r : Int) (s : Nat) : p * gz_X a b c p q r s + q * gz_Y a b c p q r s = r * gz_W a b p q s := by
  unfold gz_X gz_Y gz_W gz_t
  generalize gz_sg (p * b s - q * a s) = g
  grind
/-- a point Z of the line, and the crossing with s, measured from t -/
theorem gz_meet {a b c : Nat → Int} {p q r x y w : Int} (hL : p * x + q * y = r * w) (s t : Nat) :
    w * gz_e a b c p q r s t = gz_W a b p q s * gz_h a b c t x y w + (-(gz_sg (gz_t a b p q s)) * gz_h a b c s x y w) * gz_t a b p q t := by
  unfold gz_e gz_X gz_Y gz_W
  generalize gz_sg (gz_t a b p q s) = g
  have e1 : w * (r * b s - q * c s) = gz_t a b p q s * x + gz_h a b c s x y w * q := by unfold gz_t gz_h; grind
  have e2 : w * (p * c s - r * a s) = gz_t a b p q s * y - gz_h a b c s x y w * p := by unfold gz_t gz_h; grind
  have e3 : w * gz_h a b c t (g * (r * b s - q * c s)) (g * (p * c s - r * a s)) (g * gz_t a b p q s) = a t * (g * (w * (r * b s - q * c s))) + b t * (g * (w * (p * c s - r * a s))) - c t * (g * (w * gz_t a b p q s)) := by
    generalize gz_t a b p q s = k
    unfold gz_h; grind
  rw [e3, e1, e2]
  generalize gz_t a b p q s = k
  generalize gz_h a b c s x y w = z
  unfold gz_h gz_t
  grind
def gz_cut (a b c : Nat → Int) (n : Nat) (p q r : Int) (m : Nat) : Prop :=
  (∀ t, t < n → (m.testBit t = true ↔ 0 < gz_t a b p q t)) ∨ ∃ s, s < n ∧ gz_t a b p q s ≠ 0 ∧ ∀ t, t < n → (m.testBit t = true ↔ (0 < gz_e a b c p q r s t ∨ (gz_e a b c p q r s t = 0 ∧ gz_t a b p q t < 0)))
/-- a point of the line from which all streets are seen as m says -/
def gz_on (a b c : Nat → Int) (n : Nat) (p q r : Int) (m : Nat) : Prop :=
  ∃ x y w : Int, 0 < w ∧ p * x + q * y = r * w ∧ ∀ t, t < n → (gz_t a b p q t ≠ 0 → gz_h a b c t x y w ≠ 0 ∧ (m.testBit t = true ↔ 0 < gz_h a b c t x y w)) ∧ (gz_t a b p q t = 0 → m.testBit t = false)
theorem gz_same {x z : Int} (h : 0 < x * z) : z ≠ 0 ∧ x ≠ 0 ∧ (0 < z ↔ 0 < x) := by
  refine ⟨fun e => by rw [e] at h; simp at h, fun e => by rw [e] at h; simp at h, ?_⟩
  rcases Int.lt_trichotomy x 0 with q | q | q
  · rcases Int.lt_trichotomy z 0 with r | r | r
    · omega
    · subst r; simp at h
    · have := Int.mul_neg_of_neg_of_pos q r; omega
  · subst q; simp at h
  · rcases Int.lt_trichotomy z 0 with r | r | r
    · have := Int.mul_neg_of_pos_of_neg q r; omega
    · subst r; simp at h
    · omega
theorem gz_cut_on {a b c : Nat → Int} {n : Nat} {p q r : Int} (hpq : p ≠ 0 ∨ q ≠ 0) (hz : ∀ t, t < n → gz_t a b p q t = 0 → a t = p ∧ b t = q ∧ c t = r) {m : Nat} (h : gz_cut a b c n p q r m) : gz_on a b c n p q r m := by
  rcases h with h | ⟨s, hs, hts, h⟩
  · -- far off
    obtain ⟨N, hN, hNs⟩ := gz_N (fun t => gz_h a b c t (p * r) (q * r) (p * p + q * q)) n
    have hval : ∀ t, gz_h a b c t (N * (-q) + 1 * (p * r)) (N * p + 1 * (q * r)) (N * 0 + 1 * (p * p + q * q)) = N * gz_t a b p q t + gz_h a b c t (p * r) (q * r) (p * p + q * q) := fun t => by rw [gz_lin, gz_dir]; omega
    refine ⟨N * (-q) + 1 * (p * r), N * p + 1 * (q * r), N * 0 + 1 * (p * p + q * q), ?_, by grind, fun t ht => ⟨fun hne => ?_, fun he => ?_⟩⟩
    · have := gz_nz hpq; omega
    · rw [hval]
      have hb := gz_big (gz_sq hne) (hNs t ht).1 (hNs t ht).2
      obtain ⟨h1, -, h3⟩ := gz_same hb
      exact ⟨h1, (h t ht).trans h3.symm⟩
    · have := h t ht
      rw [he] at this
      cases hm : m.testBit t with
      | false => rfl
      | true => have := this.mp hm; omega
  · -- just ahead of the crossing with s
    obtain ⟨N, hN, hNs⟩ := gz_N (fun t => -(gz_t a b p q t)) n
    have hW := gz_W_pos hts
    have hval : ∀ t, gz_h a b c t (N * gz_X a b c p q r s + (-1) * (-q)) (N * gz_Y a b c p q r s + (-1) * p) (N * gz_W a b p q s + (-1) * 0) = N * gz_e a b c p q r s t + -(gz_t a b p q t) := fun t => by rw [gz_lin, gz_dir]; unfold gz_e; omega
    refine ⟨N * gz_X a b c p q r s + (-1) * (-q), N * gz_Y a b c p q r s + (-1) * p, N * gz_W a b p q s + (-1) * 0, ?_, ?_, fun t ht => ⟨fun hne => ?_, fun he => ?_⟩⟩
    · have := Int.mul_pos hN hW; omega
    · have := gz_onL a b c p q r s; grind
    · rw [hval]
      have hm := h t ht
      by_cases he : gz_e a b c p q r s t = 0
      · rw [he] at hm ⊢
        have e0 : N * 0 + -(gz_t a b p q t) = -(gz_t a b p q t) := by simp
        rw [e0]
        refine ⟨by omega, hm.trans ⟨fun z => ?_, fun z => Or.inr ⟨rfl, by omega⟩⟩⟩
        rcases z with z | z <;> omega
      · have hb := gz_big (gz_sq he) (hNs t ht).1 (hNs t ht).2
        obtain ⟨h1, -, h3⟩ := gz_same hb
        refine ⟨h1, hm.trans ⟨fun z => ?_, fun z => Or.inl (h3.mp z)⟩⟩
        rcases z with z | z
        · exact h3.mpr z
        · exact absurd z.1 he
    · have hm := h t ht
      rw [gz_e_line (hz t ht he), he] at hm
      cases hm2 : m.testBit t with
      | false => rfl
      | true => have := hm.mp hm2; omega
theorem gz_on_cut {a b c : Nat → Int} {n : Nat} {p q r : Int} (hz : ∀ t, t < n → gz_t a b p q t = 0 → a t = p ∧ b t = q ∧ c t = r) {m : Nat} (h : gz_on a b c n p q r m) : gz_cut a b c n p q r m := by
  obtain ⟨x, y, w, hw, hL, h⟩ := h
  rcases gz_least (al := fun t => gz_W a b p q t) (be := fun t => -(gz_sg (gz_t a b p q t)) * gz_h a b c t x y w) (T := fun t => gz_t a b p q t ≠ 0) n (fun t ht hT => ⟨gz_W_pos hT, by
      have h1 := ((h t ht).1 hT).1
      rcases gz_sg_or (gz_t a b p q t) with g | g <;> rw [g] <;> omega⟩) with hA | ⟨s, hs, hTs, hbs, hm⟩
  · refine Or.inl (fun t ht => ?_)
    by_cases hT : gz_t a b p q t = 0
    · rw [(h t ht).2 hT, hT]; simp
    · have h1 := hA t ht hT
      have h2 := (h t ht).1 hT
      have h3 := gz_sg_pos hT
      rw [h2.2]
      rcases gz_sg_or (gz_t a b p q t) with g | g <;> rw [g] at h1 h3 <;> omega
  · refine Or.inr ⟨s, hs, hTs, fun t ht => ?_⟩
    by_cases hT : gz_t a b p q t = 0
    · rw [(h t ht).2 hT, gz_e_line (hz t ht hT), hT]; simp
    · have h2 := (h t ht).1 hT
      have h3 := gz_sg_pos hT
      have hWs := gz_W_pos hTs
      have hWt := gz_W_pos hT
      have hme := gz_meet (a := a) (b := b) (c := c) hL s t
      have hmt := hm t ht hT
      rw [h2.2]
      try dsimp only at hbs hmt
      generalize hBs : -(gz_sg (gz_t a b p q s)) * gz_h a b c s x y w = Bs at hbs hmt hme
      generalize hWs' : gz_W a b p q s = Ws at hWs hme hmt
      have hWt' : gz_W a b p q t = gz_sg (gz_t a b p q t) * gz_t a b p q t := rfl
      generalize hE : gz_e a b c p q r s t = E at hme ⊢
      generalize hZ : gz_h a b c t x y w = Z at hme hmt h2 ⊢
      generalize hTt : gz_t a b p q t = τ at hme hmt h3 hT hWt' ⊢
      rw [hWt'] at hmt
      -- w * E = Ws * Z + Bs * τ
      have hsE : (0 < E ↔ 0 < w * E) ∧ (E = 0 ↔ w * E = 0) := by
        refine ⟨⟨fun z => Int.mul_pos hw z, fun z => ?_⟩, ⟨fun z => by rw [z]; simp, fun z => ?_⟩⟩
        · exact ((gz_same z).2.2).mpr hw
        · rcases Int.mul_eq_zero.mp z with z | z
          · omega
          · exact z
      rw [hsE.1, hsE.2, hme]
      rcases gz_sg_or τ with g | g <;> rw [g] at hmt h3
      · -- τ above 0
        have hτ : 0 < τ := by omega
        have hp : 0 < Bs * τ := Int.mul_pos hbs hτ
        rcases hmt with hmt | hmt
        · have hZp : 0 < Z := by omega
          have := Int.mul_pos hWs hZp
          omega
        · have e1 : Bs * (1 * τ) = Bs * τ := by rw [Int.one_mul]
          have e2 : -1 * Z * Ws = -(Ws * Z) := by grind
          rw [e1, e2] at hmt
          have hZn : Z < 0 := by
            rcases Int.lt_trichotomy Z 0 with q | q | q
            · exact q
            · exact absurd q h2.1
            · have := Int.mul_pos hWs q; omega
          omega
      · have hτ : τ < 0 := by omega
        have hp : Bs * τ < 0 := Int.mul_neg_of_pos_of_neg hbs hτ
        rcases hmt with hmt | hmt
        · have hZn : Z < 0 := by omega
          have := Int.mul_neg_of_pos_of_neg hWs hZn
          omega
        · have e1 : Bs * (-1 * τ) = -(Bs * τ) := by grind
          have e2 : -(-1) * Z * Ws = Ws * Z := by grind
          rw [e1, e2] at hmt
          have hZp : 0 < Z := by
            rcases Int.lt_trichotomy Z 0 with q | q | q
            · have := Int.mul_neg_of_pos_of_neg hWs q; omega
            · exact absurd q h2.1
            · exact q
          omega
end
section
/-! REGIONS: sides that some point sees -/
def gz_ok (a b : Nat → Int) (n : Nat) : Prop := (∀ s, s < n → a s ≠ 0 ∨ b s ≠ 0) ∧ ∀ i j, i < n → j < n → i ≠ j → gz_t a b (a i) (b i) j ≠ 0
def gz_reg (a b c : Nat → Int) (n : Nat) (T : Nat → Prop) (m : Nat) : Prop := ∃ x y w : Int, 0 < w ∧ ∀ s, s < n → T s → gz_h a b c s x y w ≠ 0 ∧ (m.testBit s = true ↔ 0 < gz_h a b c s x y w)
theorem gz_t_self (a b : Nat → Int) (i : Nat) : gz_t a b (a i) (b i) i = 0 := by unfold gz_t; grind
theorem gz_ok_z {a b c : Nat → Int} {n : Nat} (h : gz_ok a b n) {k : Nat} (hk : k < n) : ∀ t, t < n → gz_t a b (a k) (b k) t = 0 → a t = a k ∧ b t = b k ∧ c t = c k := by
  intro t ht he
  by_cases e : k = t
  · subst e; exact ⟨rfl, rfl, rfl⟩
  · exact absurd he (h.2 k t hk ht e)
/-- off the line to either side, so little that no other side changes -/
theorem gz_push {a b c : Nat → Int} {n : Nat} {x y w p q r : Int} (hw : 0 < w) (hpq : p ≠ 0 ∨ q ≠ 0) (hL : p * x + q * y = r * w) (g : Int) (hg : g = 1 ∨ g = -1) :
    ∃ x2 y2 w2 : Int, 0 < w2 ∧ 0 < g * (p * x2 + q * y2 - r * w2) ∧ ∀ t, t < n → gz_h a b c t x y w ≠ 0 → 0 < gz_h a b c t x y w * gz_h a b c t x2 y2 w2 := by
  obtain ⟨N, hN, hNs⟩ := gz_N (fun t => g * gz_h a b c t p q 0) n
  refine ⟨N * x + g * p, N * y + g * q, N * w + g * 0, ?_, ?_, fun t ht hne => ?_⟩
  · have := Int.mul_pos hN hw; omega
  · have h1 := gz_nz hpq
    have e : p * (N * x + g * p) + q * (N * y + g * q) - r * (N * w + g * 0) = N * (p * x + q * y - r * w) + g * (p * p + q * q) := by grind
    rw [e, show p * x + q * y - r * w = 0 by omega]
    rcases hg with rfl | rfl <;> omega
  · rw [gz_lin]
    exact gz_big (gz_sq hne) (hNs t ht).1 (hNs t ht).2
/-- q with the bit k put out -/
def gz_off (q k : Nat) : Nat := if q.testBit k then q ^^^ 2 ^ k else q
theorem gz_off_bit (q k t : Nat) : (gz_off q k).testBit t = (decide (t ≠ k) && q.testBit t) := by
  unfold gz_off
  by_cases hk : q.testBit k = true
  · rw [if_pos hk, Nat.testBit_xor, Nat.testBit_two_pow]
    by_cases h : k = t
    · subst h; simp [hk]
    · have h' : t ≠ k := fun e => h e.symm
      simp [h, h']
  · rw [if_neg hk]
    by_cases h : t = k
    · subst h; simp [hk]
    · simp [h]
theorem gz_reg_cut {a b c : Nat → Int} {n : Nat} (hok : gz_ok a b n) (hn : 0 < n) {q : Nat} (h : gz_reg a b c n (fun _ => True) q) : ∃ k, k < n ∧ gz_cut a b c n (a k) (b k) (c k) (gz_off q k) := by
  obtain ⟨x, y, w, hw, hX⟩ := h
  obtain ⟨k, x2, y2, w2, hk, -, hw2, hz, hs⟩ := gz_adj (T := fun _ => True) hw n (fun s hs _ => hok.1 s hs) (fun i j hi hj hij _ _ => hok.2 i j hi hj hij) (fun s hs _ => (hX s hs trivial).1) ⟨0, hn, trivial⟩
  refine ⟨k, hk, gz_on_cut (gz_ok_z hok hk) ⟨x2, y2, w2, hw2, ?_, fun t ht => ⟨fun hne => ?_, fun he => ?_⟩⟩⟩
  · unfold gz_h at hz; omega
  · have htk : t ≠ k := fun e => by subst e; exact hne (gz_t_self a b t)
    obtain ⟨h1, -, h3⟩ := gz_same (hs t ht trivial htk)
    refine ⟨h1, ?_⟩
    rw [gz_off_bit, h3, ← (hX t ht trivial).2]
    simp [htk]
  · have htk : t = k := by
      by_cases e : k = t
      · exact e.symm
      · exact absurd he (hok.2 k t hk ht e)
    subst htk
    rw [gz_off_bit]; simp
theorem gz_cut_reg {a b c : Nat → Int} {n : Nat} (hok : gz_ok a b n) {k : Nat} (hk : k < n) {m q : Nat} (h : gz_cut a b c n (a k) (b k) (c k) m) (hm : ∀ t, t < n → t ≠ k → m.testBit t = q.testBit t) : gz_reg a b c n (fun _ => True) q := by
  obtain ⟨x, y, w, hw, hL, hZ⟩ := gz_cut_on (hok.1 k hk) (gz_ok_z hok hk) h
  obtain ⟨g, hg, hgq⟩ : ∃ g : Int, (g = 1 ∨ g = -1) ∧ (g = 1 ↔ q.testBit k = true) := by
    cases q.testBit k with
    | true => exact ⟨1, Or.inl rfl, by simp⟩
    | false => exact ⟨-1, Or.inr rfl, by simp⟩
  obtain ⟨x2, y2, w2, hw2, hk2, h2⟩ := gz_push (a := a) (b := b) (c := c) (n := n) hw (hok.1 k hk) hL g hg
  refine ⟨x2, y2, w2, hw2, fun s hs _ => ?_⟩
  by_cases hsk : s = k
  · subst hsk
    have e : gz_h a b c s x2 y2 w2 = a s * x2 + b s * y2 - c s * w2 := rfl
    rw [e, ← hgq]
    rcases hg with rfl | rfl <;> constructor <;> omega
  · have hne := hok.2 k s hk hs (fun e => hsk e.symm)
    obtain ⟨h3, h4⟩ := (hZ s hs).1 hne
    obtain ⟨h5, -, h6⟩ := gz_same (h2 s hs h3)
    refine ⟨h5, ?_⟩
    rw [← hm s hs hsk, h4, h6]
/-- the quarters that a new line cuts: those with a point on either side of it -/
theorem gz_new_iff {a b c : Nat → Int} {n : Nat} {p q r : Int} (hpq : p ≠ 0 ∨ q ≠ 0) (hne : ∀ t, t < n → gz_t a b p q t ≠ 0) {m : Nat} :
    gz_cut a b c n p q r m ↔ (∃ x y w : Int, 0 < w ∧ p * x + q * y - r * w < 0 ∧ ∀ s, s < n → gz_h a b c s x y w ≠ 0 ∧ (m.testBit s = true ↔ 0 < gz_h a b c s x y w)) ∧ (∃ x y w : Int, 0 < w ∧ 0 < p * x + q * y - r * w ∧ ∀ s, s < n → gz_h a b c s x y w ≠ 0 ∧ (m.testBit s = true ↔ 0 < gz_h a b c s x y w)) := by
  have hz : ∀ t, t < n → gz_t a b p q t = 0 → a t = p ∧ b t = q ∧ c t = r := fun t ht he => absurd he (hne t ht)
  constructor
  · intro h
    obtain ⟨x, y, w, hw, hL, hZ⟩ := gz_cut_on hpq hz h
    obtain ⟨x1, y1, w1, hw1, hk1, h1⟩ := gz_push (a := a) (b := b) (c := c) (n := n) hw hpq hL (-1) (Or.inr rfl)
    obtain ⟨x2, y2, w2, hw2, hk2, h2⟩ := gz_push (a := a) (b := b) (c := c) (n := n) hw hpq hL 1 (Or.inl rfl)
    refine ⟨⟨x1, y1, w1, hw1, by omega, fun s hs => ?_⟩, ⟨x2, y2, w2, hw2, by omega, fun s hs => ?_⟩⟩
    · obtain ⟨h3, h4⟩ := (hZ s hs).1 (hne s hs)
      obtain ⟨h5, -, h6⟩ := gz_same (h1 s hs h3)
      exact ⟨h5, by rw [h4, h6]⟩
    · obtain ⟨h3, h4⟩ := (hZ s hs).1 (hne s hs)
      obtain ⟨h5, -, h6⟩ := gz_same (h2 s hs h3)
      exact ⟨h5, by rw [h4, h6]⟩
  · rintro ⟨⟨x, y, w, hw, hl, hX⟩, ⟨x2, y2, w2, hw2, hl2, hY⟩⟩
    generalize hA : p * x + q * y - r * w = A at hl
    generalize hB : p * x2 + q * y2 - r * w2 = B at hl2
    refine gz_on_cut hz ⟨B * x + (-A) * x2, B * y + (-A) * y2, B * w + (-A) * w2, ?_, ?_, fun t ht => ⟨fun _ => ?_, fun he => absurd he (hne t ht)⟩⟩
    · have := Int.mul_pos hl2 hw; have := Int.mul_pos (show 0 < -A by omega) hw2; omega
    · grind
    · rw [gz_lin]
      obtain ⟨h1, h2⟩ := hX t ht
      obtain ⟨h3, h4⟩ := hY t ht
      rw [h2]
      rw [h2] at h4
      generalize gz_h a b c t x y w = u at *
      generalize gz_h a b c t x2 y2 w2 = v at *
      rcases Int.lt_or_gt_of_ne h1 with q1 | q1
      · have hv : v < 0 := by omega
        have := Int.mul_neg_of_pos_of_neg hl2 q1
        have := Int.mul_neg_of_pos_of_neg (show 0 < -A by omega) hv
        omega
      · have hv : 0 < v := by omega
        have := Int.mul_pos hl2 q1
        have := Int.mul_pos (show 0 < -A by omega) hv
        omega
/-! how the reference finds them: ends of lines, and about points -/
def gz_p (a b c : Nat → Int) (i j t : Nat) : Int := gz_e a b c (a i) (b i) (c i) j t
def gz_end (a b : Nat → Int) (n q : Nat) : Prop := ∃ i, i < n ∧ ∃ g : Int, (g = 1 ∨ g = -1) ∧ ∀ t, t < n → t ≠ i → (q.testBit t = true ↔ 0 < g * gz_t a b (a i) (b i) t)
def gz_fst (a b c : Nat → Int) (i j : Nat) : Prop := ∀ k, k < j → k ≠ i → gz_p a b c i j k ≠ 0
def gz_agr (a b c : Nat → Int) (n i j q : Nat) : Prop := ∀ t, t < n → gz_p a b c i j t ≠ 0 → (q.testBit t = true ↔ 0 < gz_p a b c i j t)
def gz_abt (a b c : Nat → Int) (n i j q : Nat) : Prop := ∃ k, k < n ∧ gz_p a b c i j k = 0 ∧ ∃ g : Int, (g = 1 ∨ g = -1) ∧ ∀ t, t < n → t ≠ k → gz_p a b c i j t = 0 → (q.testBit t = true ↔ 0 < g * gz_t a b (a k) (b k) t)
theorem gz_p_i (a b c : Nat → Int) (i j : Nat) : gz_p a b c i j i = 0 := gz_e_line ⟨rfl, rfl, rfl⟩
theorem gz_p_j (a b c : Nat → Int) (i j : Nat) : gz_p a b c i j j = 0 := gz_e_s a b c _ _ _ j
/-- a point on two lines is their crossing -/
theorem gz_point {a b c : Nat → Int} {i j : Nat} {x y w : Int} (hi : gz_h a b c i x y w = 0) (hj : gz_h a b c j x y w = 0) (t : Nat) : w * gz_p a b c i j t = gz_W a b (a i) (b i) j * gz_h a b c t x y w := by
  have h := gz_meet (a := a) (b := b) (c := c) (p := a i) (q := b i) (r := c i) (x := x) (y := y) (w := w) (by unfold gz_h at hi; omega) j t
  rw [hj, Int.mul_zero, Int.zero_mul, Int.add_zero] at h
  exact h
theorem gz_e_h (a b c : Nat → Int) (p q r : Int) (s t : Nat) : gz_h a b c t (gz_X a b c p q r s) (gz_Y a b c p q r s) (gz_W a b p q s) = gz_e a b c p q r s t := rfl
/-- the first two lines that meet where k and s meet -/
theorem gz_firsts {a b c : Nat → Int} {n : Nat} (hok : gz_ok a b n) {k s : Nat} (hk : k < n) (hs : s < n) (hks : k ≠ s) : ∃ i j, i < j ∧ j < n ∧ gz_fst a b c i j ∧ ∀ t, (gz_p a b c i j t = 0 ↔ gz_p a b c k s t = 0) ∧ (0 < gz_p a b c i j t ↔ 0 < gz_p a b c k s t) := by
  have hW := gz_W_pos (hok.2 k s hk hs hks)
  obtain ⟨i, hiz, him⟩ := pk_least (fun t => gz_p a b c k s t = 0) ⟨k, gz_p_i a b c k s⟩
  have hik : i ≤ k := Nat.le_of_not_lt fun h => him k h (gz_p_i a b c k s)
  have his : i ≤ s := Nat.le_of_not_lt fun h => him s h (gz_p_j a b c k s)
  obtain ⟨j, ⟨hij, hjz⟩, hjm⟩ := pk_least (fun t => i < t ∧ gz_p a b c k s t = 0) (by
    by_cases e : i = k
    · exact ⟨s, by omega, gz_p_j a b c k s⟩
    · exact ⟨k, by omega, gz_p_i a b c k s⟩)
  have hjn : j < n := by
    by_cases e : i = k
    · exact Nat.lt_of_le_of_lt (Nat.le_of_not_lt fun h => hjm s h ⟨by omega, gz_p_j a b c k s⟩) hs
    · exact Nat.lt_of_le_of_lt (Nat.le_of_not_lt fun h => hjm k h ⟨by omega, gz_p_i a b c k s⟩) hk
  have hWij := gz_W_pos (hok.2 i j (by omega) hjn (by omega))
  have hrel : ∀ t, (gz_p a b c i j t = 0 ↔ gz_p a b c k s t = 0) ∧ (0 < gz_p a b c i j t ↔ 0 < gz_p a b c k s t) := by
    intro t
    have h := gz_point (a := a) (b := b) (c := c) (i := i) (j := j) hiz hjz t
    rw [gz_e_h] at h
    have e : gz_e a b c (a k) (b k) (c k) s t = gz_p a b c k s t := rfl
    rw [e] at h
    generalize gz_p a b c i j t = u at *
    generalize gz_p a b c k s t = v at *
    generalize gz_W a b (a k) (b k) s = W1 at *
    generalize gz_W a b (a i) (b i) j = W2 at *
    rcases Int.lt_trichotomy u 0 with q | q | q
    · have h1 := Int.mul_neg_of_pos_of_neg hW q
      rcases Int.lt_trichotomy v 0 with r | r | r
      · omega
      · rw [r, Int.mul_zero] at h; omega
      · have := Int.mul_pos hWij r; omega
    · rw [q, Int.mul_zero] at h
      rcases Int.mul_eq_zero.mp h.symm with h | h <;> omega
    · have h1 := Int.mul_pos hW q
      rcases Int.lt_trichotomy v 0 with r | r | r
      · have := Int.mul_neg_of_pos_of_neg hWij r; omega
      · rw [r, Int.mul_zero] at h; omega
      · omega
  refine ⟨i, j, hij, hjn, fun t ht hti => ?_, hrel⟩
  rw [Ne, (hrel t).1]
  intro hz
  rcases Nat.lt_or_ge t i with q | q
  · exact him t q hz
  · exact hjm t ht ⟨by omega, hz⟩
theorem gz_reg_ref {a b c : Nat → Int} {n : Nat} (hok : gz_ok a b n) (hn : 0 < n) {q : Nat} (h : gz_reg a b c n (fun _ => True) q) : gz_end a b n q ∨ ∃ i j, i < j ∧ j < n ∧ gz_fst a b c i j ∧ gz_agr a b c n i j q ∧ gz_abt a b c n i j q := by
  obtain ⟨k, hk, hc⟩ := gz_reg_cut hok hn h
  have hbit : ∀ t, t ≠ k → (gz_off q k).testBit t = q.testBit t := fun t ht => by rw [gz_off_bit]; simp [ht]
  rcases hc with hc | ⟨s, hs, hts, hc⟩
  · refine Or.inl ⟨k, hk, 1, Or.inl rfl, fun t ht htk => ?_⟩
    rw [← hbit t htk, hc t ht, Int.one_mul]
  · have hks : k ≠ s := fun e => by subst e; exact hts (gz_t_self a b k)
    obtain ⟨i, j, hij, hj, hf, hrel⟩ := gz_firsts (c := c) hok hk hs hks
    refine Or.inr ⟨i, j, hij, hj, hf, fun t ht hne => ?_, k, hk, (hrel k).1.mpr (gz_p_i a b c k s), -1, Or.inr rfl, fun t ht htk hz => ?_⟩
    · have hne2 : gz_p a b c k s t ≠ 0 := fun e => hne ((hrel t).1.mpr e)
      have htk : t ≠ k := fun e => by subst e; exact hne2 (gz_p_i a b c t s)
      rw [← hbit t htk, hc t ht, (hrel t).2]
      exact ⟨fun z => z.elim id (fun z => absurd z.1 hne2), fun z => Or.inl z⟩
    · have hz2 : gz_e a b c (a k) (b k) (c k) s t = 0 := (hrel t).1.mp hz
      rw [← hbit t htk, hc t ht, hz2]
      constructor <;> omega
theorem gz_ref_reg {a b c : Nat → Int} {n : Nat} (hok : gz_ok a b n) {q : Nat} (h : gz_end a b n q ∨ ∃ i j, i < j ∧ j < n ∧ gz_agr a b c n i j q ∧ gz_abt a b c n i j q) : gz_reg a b c n (fun _ => True) q := by
  -- a point on line k that the others see as q says
  have key : ∀ (k : Nat) (x y w : Int), k < n → 0 < w → gz_h a b c k x y w = 0 → (∀ t, t < n → t ≠ k → gz_h a b c t x y w ≠ 0 ∧ (q.testBit t = true ↔ 0 < gz_h a b c t x y w)) → gz_reg a b c n (fun _ => True) q := by
    intro k x y w hk hw hz hZ
    obtain ⟨g, hg, hgq⟩ : ∃ g : Int, (g = 1 ∨ g = -1) ∧ (g = 1 ↔ q.testBit k = true) := by
      cases q.testBit k with
      | true => exact ⟨1, Or.inl rfl, by simp⟩
      | false => exact ⟨-1, Or.inr rfl, by simp⟩
    obtain ⟨x2, y2, w2, hw2, hk2, h2⟩ := gz_push (a := a) (b := b) (c := c) (n := n) (x := x) (y := y) (p := a k) (q := b k) (r := c k) hw (hok.1 k hk) (by unfold gz_h at hz; omega) g hg
    refine ⟨x2, y2, w2, hw2, fun s hs _ => ?_⟩
    by_cases hsk : s = k
    · subst hsk
      have e : gz_h a b c s x2 y2 w2 = a s * x2 + b s * y2 - c s * w2 := rfl
      rw [e, ← hgq]
      rcases hg with rfl | rfl <;> constructor <;> omega
    · obtain ⟨h3, h4⟩ := hZ s hs hsk
      obtain ⟨h5, -, h6⟩ := gz_same (h2 s hs h3)
      exact ⟨h5, by rw [h4, h6]⟩
  rcases h with ⟨k, hk, g, hg, hq⟩ | ⟨i, j, hij, hj, ha, k, hk, hkz, g, hg, hq⟩
  · obtain ⟨N, hN, hNs⟩ := gz_N (fun t => gz_h a b c t (a k * c k) (b k * c k) (a k * a k + b k * b k)) n
    have hval : ∀ t, gz_h a b c t (N * (g * -(b k)) + 1 * (a k * c k)) (N * (g * a k) + 1 * (b k * c k)) (N * (g * 0) + 1 * (a k * a k + b k * b k)) = N * (g * gz_t a b (a k) (b k) t) + gz_h a b c t (a k * c k) (b k * c k) (a k * a k + b k * b k) := fun t => by
      rw [gz_lin]
      have e : gz_h a b c t (g * -(b k)) (g * a k) (g * 0) = g * gz_t a b (a k) (b k) t := by unfold gz_h gz_t; grind
      rw [e]; omega
    refine key k (N * (g * -(b k)) + 1 * (a k * c k)) (N * (g * a k) + 1 * (b k * c k)) (N * (g * 0) + 1 * (a k * a k + b k * b k)) hk ?_ ?_ (fun t ht htk => ?_)
    · have := gz_nz (hok.1 k hk)
      have e : N * (g * 0) = 0 := by simp
      omega
    · rw [hval, gz_t_self, gz_foot]; simp
    · rw [hval, hq t ht htk]
      have hne : g * gz_t a b (a k) (b k) t ≠ 0 := Int.mul_ne_zero (by rcases hg with rfl | rfl <;> decide) (hok.2 k t hk ht (fun e => htk e.symm))
      obtain ⟨h1, -, h3⟩ := gz_same (gz_big (gz_sq hne) (hNs t ht).1 (hNs t ht).2)
      exact ⟨h1, h3.symm⟩
  · have hW := gz_W_pos (hok.2 i j (by omega) hj (by omega))
    obtain ⟨N, hN, hNs⟩ := gz_N (fun t => g * gz_t a b (a k) (b k) t) n
    have hval : ∀ t, gz_h a b c t (N * gz_X a b c (a i) (b i) (c i) j + g * -(b k)) (N * gz_Y a b c (a i) (b i) (c i) j + g * a k) (N * gz_W a b (a i) (b i) j + g * 0) = N * gz_p a b c i j t + g * gz_t a b (a k) (b k) t := fun t => by rw [gz_lin, gz_dir]; rfl
    refine key k (N * gz_X a b c (a i) (b i) (c i) j + g * -(b k)) (N * gz_Y a b c (a i) (b i) (c i) j + g * a k) (N * gz_W a b (a i) (b i) j + g * 0) hk ?_ ?_ (fun t ht htk => ?_)
    · have := Int.mul_pos hN hW
      have e : g * 0 = 0 := by simp
      omega
    · rw [hval, gz_t_self, hkz]; simp
    · rw [hval]
      have hne : g * gz_t a b (a k) (b k) t ≠ 0 := Int.mul_ne_zero (by rcases hg with rfl | rfl <;> decide) (hok.2 k t hk ht (fun e => htk e.symm))
      by_cases hz : gz_p a b c i j t = 0
      · rw [hq t ht htk hz, hz]
        have e : N * 0 + g * gz_t a b (a k) (b k) t = g * gz_t a b (a k) (b k) t := by simp
        rw [e]
        exact ⟨hne, Iff.rfl⟩
      · rw [ha t ht hz]
        obtain ⟨h1, -, h3⟩ := gz_same (gz_big (gz_sq hz) (hNs t ht).1 (hNs t ht).2)
        exact ⟨h1, h3.symm⟩
/-- a quarter that agrees with a point off its lines lies about it -/
theorem gz_about {a b c : Nat → Int} {n : Nat} (hok : gz_ok a b n) {q i j : Nat} (h : gz_reg a b c n (fun _ => True) q) (hij : i < j) (hj : j < n) : gz_abt a b c n i j q := by
  obtain ⟨x, y, w, hw, hX⟩ := h
  obtain ⟨k, x2, y2, w2, hk, hkz, hw2, hz, hs⟩ := gz_adj (T := fun t => gz_p a b c i j t = 0) hw n (fun s hs _ => hok.1 s hs) (fun i j hi hj hij _ _ => hok.2 i j hi hj hij) (fun s hs _ => (hX s hs trivial).1) ⟨i, by omega, gz_p_i a b c i j⟩
  have hW := gz_W_pos (hok.2 i j (by omega) hj (by omega))
  have hk0 := gz_nz (hok.1 k hk)
  -- Z less the point goes along k
  obtain ⟨mu, hmu⟩ : ∃ mu : Int, ∀ t, gz_p a b c i j t = 0 → (a k * a k + b k * b k) * (gz_W a b (a i) (b i) j * gz_h a b c t x2 y2 w2) = mu * gz_t a b (a k) (b k) t := by
    generalize hPx : gz_X a b c (a i) (b i) (c i) j = X0
    generalize hPy : gz_Y a b c (a i) (b i) (c i) j = Y0
    generalize hPw : gz_W a b (a i) (b i) j = W0
    have hp : ∀ t, gz_p a b c i j t = gz_h a b c t X0 Y0 W0 := fun t => by rw [← hPx, ← hPy, ← hPw]; rfl
    refine ⟨a k * (W0 * y2 - w2 * Y0) - b k * (W0 * x2 - w2 * X0), fun t ht => ?_⟩
    rw [hp] at ht
    have hkz2 := hkz
    rw [hp] at hkz2
    unfold gz_h at ht hkz2 hz ⊢
    unfold gz_t
    have e1 : a k * (W0 * x2 - w2 * X0) + b k * (W0 * y2 - w2 * Y0) = 0 := by grind
    have e2 : W0 * (a t * x2 + b t * y2 - c t * w2) = a t * (W0 * x2 - w2 * X0) + b t * (W0 * y2 - w2 * Y0) := by grind
    rw [e2]
    generalize W0 * x2 - w2 * X0 = U at *
    generalize W0 * y2 - w2 * Y0 = V at *
    grind
  have hmu0 : mu ≠ 0 := by
    intro e
    obtain ⟨t, ht, htk, htz⟩ : ∃ t, t < n ∧ t ≠ k ∧ gz_p a b c i j t = 0 := by
      by_cases e2 : i = k
      · exact ⟨j, hj, by omega, gz_p_j a b c i j⟩
      · exact ⟨i, by omega, e2, gz_p_i a b c i j⟩
    have h1 := hmu t htz
    rw [e] at h1
    have h2 := (gz_same (hs t ht htz htk)).1
    have h3 : (a k * a k + b k * b k) * (gz_W a b (a i) (b i) j * gz_h a b c t x2 y2 w2) ≠ 0 := Int.mul_ne_zero (by omega) (Int.mul_ne_zero (by omega) h2)
    rw [Int.zero_mul] at h1
    exact h3 h1
  refine ⟨k, hk, hkz, gz_sg mu, gz_sg_or mu, fun t ht htk htz => ?_⟩
  obtain ⟨h1, -, h3⟩ := gz_same (hs t ht htz htk)
  rw [(hX t ht trivial).2, ← h3]
  have h4 := hmu t htz
  have h5 := gz_sg_pos hmu0
  generalize gz_h a b c t x2 y2 w2 = z at *
  generalize gz_t a b (a k) (b k) t = τ at *
  generalize hM : (a k * a k + b k * b k) = M at *
  generalize gz_W a b (a i) (b i) j = W0 at *
  have h6 : 0 < z ↔ 0 < mu * τ := by
    rw [← h4]
    constructor
    · intro hz0; exact Int.mul_pos hk0 (Int.mul_pos hW hz0)
    · intro hp
      have h7 := ((gz_same hp).2.2).mpr hk0
      exact ((gz_same h7).2.2).mpr hW
  rw [h6]
  rcases gz_sg_or mu with g | g <;> rw [g] at h5 ⊢
  · have hm : 0 < mu := by omega
    rw [Int.one_mul]
    constructor
    · intro hp; exact ((gz_same hp).2.2).mpr hm
    · intro hp; exact Int.mul_pos hm hp
  · have hm : mu < 0 := by omega
    constructor
    · intro hp
      rcases Int.lt_trichotomy τ 0 with r | r | r
      · omega
      · rw [r] at hp; simp at hp
      · have := Int.mul_neg_of_neg_of_pos hm r; omega
    · intro hp; exact Int.mul_pos_of_neg_of_neg hm (by omega)
/-- without some of the lines: the regions are those of the rest -/
theorem gz_less {a b c : Nat → Int} {n : Nat} (hok : gz_ok a b n) {k : Nat} (hk : k < n) {m : Nat} (h : gz_reg a b c n (fun t => t ≠ k) m) : ∃ q, (∀ t, t ≠ k → q.testBit t = m.testBit t) ∧ gz_reg a b c n (fun _ => True) q := by
  obtain ⟨x, y, w, hw, hX⟩ := h
  have done : ∀ (x2 y2 w2 : Int), 0 < w2 → gz_h a b c k x2 y2 w2 ≠ 0 → (∀ s, s < n → s ≠ k → gz_h a b c s x2 y2 w2 ≠ 0 ∧ (m.testBit s = true ↔ 0 < gz_h a b c s x2 y2 w2)) → ∃ q, (∀ t, t ≠ k → q.testBit t = m.testBit t) ∧ gz_reg a b c n (fun _ => True) q := by
    intro x2 y2 w2 hw2 hk2 h2
    by_cases hp : 0 < gz_h a b c k x2 y2 w2
    · refine ⟨gz_off m k ||| 2 ^ k, fun t ht => ?_, x2, y2, w2, hw2, fun s hs _ => ?_⟩
      · rw [Nat.testBit_or, Nat.testBit_two_pow, gz_off_bit]
        have : k ≠ t := fun e => ht e.symm
        simp [ht, this]
      · by_cases hsk : s = k
        · subst hsk
          rw [Nat.testBit_or, Nat.testBit_two_pow]
          simp [hk2, hp]
        · rw [Nat.testBit_or, Nat.testBit_two_pow, gz_off_bit]
          have : k ≠ s := fun e => hsk e.symm
          simpa [hsk, this] using h2 s hs hsk
    · refine ⟨gz_off m k, fun t ht => ?_, x2, y2, w2, hw2, fun s hs _ => ?_⟩
      · rw [gz_off_bit]; simp [ht]
      · by_cases hsk : s = k
        · subst hsk
          rw [gz_off_bit]
          simp [hk2, hp]
        · rw [gz_off_bit]
          simpa [hsk] using h2 s hs hsk
  by_cases hz : gz_h a b c k x y w = 0
  · obtain ⟨x2, y2, w2, hw2, hk2, h2⟩ := gz_push (a := a) (b := b) (c := c) (n := n) (x := x) (y := y) (p := a k) (q := b k) (r := c k) hw (hok.1 k hk) (by unfold gz_h at hz; omega) 1 (Or.inl rfl)
    refine done x2 y2 w2 hw2 (by unfold gz_h; omega) (fun s hs hsk => ?_)
    obtain ⟨h3, h4⟩ := hX s hs hsk
    obtain ⟨h5, -, h6⟩ := gz_same (h2 s hs h3)
    exact ⟨h5, by rw [h4, h6]⟩
  · exact done x y w hw hz (fun s hs hsk => hX s hs hsk)
end
section
/-! pasted families of the kit: words of ints and longs, counts -/
theorem fa_and (a b : Nat) : nI a &&& nI b = nI (a &&& b) := by
  apply Int32.toBitVec_inj.1
  show BitVec.ofNat 32 a &&& BitVec.ofNat 32 b = BitVec.ofNat 32 (a &&& b)
  apply BitVec.eq_of_getLsbD_eq
  intro i hi
  simp [hi]
theorem fa_or (a b : Nat) : nI a ||| nI b = nI (a ||| b) := by
  apply Int32.toBitVec_inj.1
  show BitVec.ofNat 32 a ||| BitVec.ofNat 32 b = BitVec.ofNat 32 (a ||| b)
  apply BitVec.eq_of_getLsbD_eq
  intro i hi
  simp [hi]
theorem nx_xor (a b : Nat) : nI a ^^^ nI b = nI (a ^^^ b) := by
  apply Int32.toBitVec_inj.1
  show BitVec.ofNat 32 a ^^^ BitVec.ofNat 32 b = BitVec.ofNat 32 (a ^^^ b)
  apply BitVec.eq_of_getLsbD_eq
  intro i hi
  simp [hi]
theorem s_l : ∀ n, n < 32 → ((nI n &&& 31).toBitVec.smod 32).toNat = n := by decide +kernel
theorem wb_tb (n : Nat) : (lN n).toBitVec = BitVec.ofNat 64 n := rfl
theorem wb_inj {a b : Int64} (h : a.toBitVec = b.toBitVec) : a = b := Int64.toBitVec_inj.mp h
theorem wb_tn {n : Nat} (h : n < 2 ^ 64) : (lN n).toBitVec.toNat = n := by rw [wb_tb, BitVec.toNat_ofNat, Nat.mod_eq_of_lt h]
theorem wb_of (x : Int64) : ∃ n, n < 2 ^ 64 ∧ x = lN n := ⟨x.toBitVec.toNat, x.toBitVec.isLt, wb_inj (by rw [wb_tb]; simp)⟩
theorem wb_of32 (x : Int32) : ∃ n, n < 2 ^ 32 ∧ x = nI n := ⟨x.toBitVec.toNat, x.toBitVec.isLt, Int32.toBitVec_inj.mp (by show _ = BitVec.ofNat 32 _; simp)⟩
theorem wb_c : ∀ k, k < 64 → ((nI k).toInt64 &&& 63) = lN k := by decide +kernel
theorem wb_cu : ∀ k, k < 64 → ((nI k).toInt64.toUInt64 &&& Int64.toUInt64 63) = UInt64.ofNat k := by decide +kernel
theorem wb_sm : ∀ k, k < 64 → (BitVec.ofNat 64 k).smod 64 = BitVec.ofNat 64 k := by decide +kernel
theorem wb_pw {a b : Nat} (h : a ≤ b) : 2 ^ b = 2 ^ a * 2 ^ (b - a) := by rw [← Nat.pow_add]; congr 1; omega
theorem wb_lt2 {a b : Nat} (h : a < b) : 2 ^ a < 2 ^ b := Nat.pow_lt_pow_right (by decide) h
theorem wb_mod (n : Nat) : lN n = lN (n % 2 ^ 64) := wb_inj (by rw [wb_tb, wb_tb]; apply BitVec.eq_of_toNat_eq; rw [BitVec.toNat_ofNat, BitVec.toNat_ofNat, Nat.mod_mod])
theorem wb_shr {n k : Nat} (hn : n < 2 ^ 64) (hk : k < 64) : ((lN n).toUInt64 >>> ((nI k).toInt64.toUInt64 &&& Int64.toUInt64 63)).toInt64 = lN (n / 2 ^ k) := by
  rw [wb_cu k hk]
  apply wb_inj
  apply BitVec.eq_of_toNat_eq
  show ((lN n).toUInt64 >>> UInt64.ofNat k).toNat = (BitVec.ofNat 64 _).toNat
  have h1 : (UInt64.ofNat k).toNat = k := by
    show (BitVec.ofNat 64 k).toNat = k
    rw [BitVec.toNat_ofNat, Nat.mod_eq_of_lt (by omega)]
  have h2 : (lN n).toUInt64.toNat = n := wb_tn hn
  rw [UInt64.toNat_shiftRight, h1, h2, Nat.mod_eq_of_lt hk, Nat.shiftRight_eq_div_pow, BitVec.toNat_ofNat, Nat.mod_eq_of_lt (Nat.lt_of_le_of_lt (Nat.div_le_self _ _) hn)]
theorem wb_shl (n : Nat) {k : Nat} (hk : k < 64) : lN n <<< ((nI k).toInt64 &&& 63) = lN (n * 2 ^ k) := by
  rw [wb_c k hk]
  apply wb_inj
  rw [Int64.toBitVec_shiftLeft, wb_tb, wb_tb, wb_tb, wb_sm k hk]
  apply BitVec.eq_of_toNat_eq
  rw [BitVec.shiftLeft_eq', BitVec.toNat_shiftLeft, BitVec.toNat_ofNat, BitVec.toNat_ofNat, BitVec.toNat_ofNat, Nat.mod_eq_of_lt (show k < 2 ^ 64 by omega), Nat.shiftLeft_eq, Nat.mul_mod, Nat.mod_mod, ← Nat.mul_mod]
theorem wb_and {a b : Nat} (ha : a < 2 ^ 64) (hb : b < 2 ^ 64) : lN a &&& lN b = lN (a &&& b) := by
  apply wb_inj
  rw [Int64.toBitVec_and, wb_tb, wb_tb, wb_tb]
  apply BitVec.eq_of_toNat_eq
  rw [BitVec.toNat_and, BitVec.toNat_ofNat, BitVec.toNat_ofNat, BitVec.toNat_ofNat, Nat.mod_eq_of_lt ha, Nat.mod_eq_of_lt hb, Nat.mod_eq_of_lt (Nat.and_lt_two_pow _ hb)]
theorem wb_or {a b : Nat} (ha : a < 2 ^ 64) (hb : b < 2 ^ 64) : lN a ||| lN b = lN (a ||| b) := by
  apply wb_inj
  rw [Int64.toBitVec_or, wb_tb, wb_tb, wb_tb]
  apply BitVec.eq_of_toNat_eq
  rw [BitVec.toNat_or, BitVec.toNat_ofNat, BitVec.toNat_ofNat, BitVec.toNat_ofNat, Nat.mod_eq_of_lt ha, Nat.mod_eq_of_lt hb, Nat.mod_eq_of_lt (Nat.or_lt_two_pow ha hb)]
def fb_ct (p : Nat → Bool) : Nat → Nat
  | 0 => 0
  | n + 1 => fb_ct p n + (if p n then 1 else 0)
theorem fb_ct_succ (p : Nat → Bool) (n : Nat) : fb_ct p (n + 1) = fb_ct p n + (if p n then 1 else 0) := rfl
theorem fb_ct_le (p : Nat → Bool) : ∀ n, fb_ct p n ≤ n
  | 0 => Nat.le_refl _
  | n + 1 => by
    have h := fb_ct_le p n
    rw [fb_ct_succ]
    split <;> omega
theorem fb_ct_cong {p q : Nat → Bool} : ∀ {n : Nat}, (∀ k, k < n → p k = q k) → fb_ct p n = fb_ct q n
  | 0, _ => rfl
  | n + 1, h => by
    rw [fb_ct_succ, fb_ct_succ, fb_ct_cong (fun k hk => h k (by omega)), h n (by omega)]
theorem fb_ct_split (p : Nat → Bool) (m : Nat) : ∀ n, fb_ct p (m + n) = fb_ct p m + fb_ct (fun k => p (m + k)) n
  | 0 => rfl
  | n + 1 => by
    have h := fb_ct_split p m n
    show fb_ct p (m + n + 1) = _
    rw [fb_ct_succ, fb_ct_succ, h, Nat.add_assoc]
theorem fb_ct_zero {p : Nat → Bool} : ∀ {n : Nat}, fb_ct p n = 0 ↔ ∀ k, k < n → p k = false
  | 0 => ⟨fun _ k hk => absurd hk (Nat.not_lt_zero k), fun _ => rfl⟩
  | n + 1 => by
    have h := fb_ct_zero (p := p) (n := n)
    rw [fb_ct_succ]
    constructor
    · intro e k hk
      have e1 : fb_ct p n = 0 := by omega
      rcases Nat.lt_or_ge k n with q | q
      · exact h.mp e1 k q
      · have ek : k = n := by omega
        subst ek
        cases hp : p k
        · rfl
        · simp [hp] at e
    · intro a
      rw [h.mpr (fun k hk => a k (by omega)), a n (by omega)]
      rfl
theorem fb_ct_pos {p : Nat → Bool} {n : Nat} : 0 < fb_ct p n ↔ ∃ k, k < n ∧ p k = true := by
  constructor
  · intro h
    refine Classical.byContradiction fun hx => ?_
    have := fb_ct_zero.mpr (fun k hk => by
      cases hp : p k
      · rfl
      · exact absurd ⟨k, hk, hp⟩ hx : ∀ k, k < n → p k = false)
    omega
  · rintro ⟨k, hk, hp⟩
    rcases Nat.eq_zero_or_pos (fb_ct p n) with e | e
    · have := fb_ct_zero.mp e k hk
      rw [this] at hp
      cases hp
    · exact e
def fb_sm (f : Nat → Nat) : Nat → Nat
  | 0 => 0
  | n + 1 => fb_sm f n + f n
theorem fb_sm_succ (f : Nat → Nat) (n : Nat) : fb_sm f (n + 1) = fb_sm f n + f n := rfl
theorem fb_sm_cong {f g : Nat → Nat} : ∀ {n : Nat}, (∀ k, k < n → f k = g k) → fb_sm f n = fb_sm g n
  | 0, _ => rfl
  | n + 1, h => by rw [fb_sm_succ, fb_sm_succ, fb_sm_cong (fun k hk => h k (by omega)), h n (by omega)]
theorem fb_bmod {z : Int} (h1 : -2147483648 ≤ z) (h2 : z < 2147483648) : z.bmod (2 ^ 32) = z := by
  rw [Int.bmod_eq_of_le (by omega) (by omega)]
theorem fb_ofI {z : Int} (h1 : -2147483648 ≤ z) (h2 : z < 2147483648) : (Int32.ofInt z).toInt = z := by
  rw [Int32.toInt_ofInt, fb_bmod h1 h2]
end
section
/-! NUMBERS: zI z is the int of the integer z; sums and products go through, comparisons under bounds -/
def zI (z : Int) : Int32 := Int32.ofInt z
theorem zI_add (a b : Int) : zI a + zI b = zI (a + b) := (Int32.ofInt_add a b).symm
theorem zI_mul (a b : Int) : zI a * zI b = zI (a * b) := (Int32.ofInt_mul a b).symm
theorem zI_neg (a : Int) : -zI a = zI (-a) := (Int32.ofInt_neg a).symm
theorem zI_sub (a b : Int) : zI a - zI b = zI (a - b) := (Int32.ofInt_sub a b).symm
theorem zI_n (k : Nat) : zI (k : Int) = nI k := Int32.ofInt_eq_ofNat
abbrev zB (z : Int) : Prop := -2147483648 ≤ z ∧ z < 2147483648
theorem zI_t {z : Int} (h : zB z) : (zI z).toInt = z := fb_ofI h.1 h.2
theorem zI_le {a b : Int} (ha : zB a) (hb : zB b) : zI a ≤ zI b ↔ a ≤ b := by rw [Int32.le_iff_toInt_le, zI_t ha, zI_t hb]
theorem zI_lt {a b : Int} (ha : zB a) (hb : zB b) : zI a < zI b ↔ a < b := by rw [Int32.lt_iff_toInt_lt, zI_t ha, zI_t hb]
theorem zI_eq {a b : Int} (ha : zB a) (hb : zB b) : zI a = zI b ↔ a = b := by rw [← Int32.toInt_inj, zI_t ha, zI_t hb]
theorem zI_of (v : Int32) : ∃ z, zB z ∧ v = zI z := ⟨v.toInt, ⟨by have := Int32.le_toInt v; omega, by have := Int32.toInt_lt v; omega⟩, (Int32.ofInt_toInt v).symm⟩
theorem zI_cl {k : Nat} (h : k < 2147483648) : (zI (k : Int)).toNatClampNeg = k := by
  show (zI (k : Int)).toInt.toNat = k
  rw [zI_t ⟨by omega, by omega⟩]
  rfl
theorem xo_rd_z {f : Nat → Int32} {n k : Nat} (h : k < n) (hn : n < 2147483648) : xo_rd f n (zI (k : Int)) = some (f k) := by
  unfold xo_rd
  have h0 : ¬ zI (k : Int) < 0 := by
    show ¬ zI (k : Int) < zI 0
    rw [zI_lt ⟨by omega, by omega⟩ ⟨by omega, by omega⟩]; omega
  rw [if_neg h0, zI_cl (by omega), if_neg (by omega)]
theorem xo_ck_z {n k : Nat} (h : k < n) (hn : n < 2147483648) : xo_ck n (zI (k : Int)) = some () := by
  unfold xo_ck
  have h0 : ¬ zI (k : Int) < 0 := by
    show ¬ zI (k : Int) < zI 0
    rw [zI_lt ⟨by omega, by omega⟩ ⟨by omega, by omega⟩]; omega
  rw [if_neg h0, zI_cl (by omega), if_neg (by omega)]
/-- a loop that goes through I 0, I 1, .., I N and then ends -/
theorem lp_run {σ ρ : Type} {f : σ → Option (σ ⊕ ρ)} (I : Nat → σ) {r : ρ} : ∀ (N fuel : Nat), N < fuel → (∀ i, i < N → f (I i) = some (.inl (I (i + 1)))) → f (I N) = some (.inr r) → xo_lp f fuel (I 0) = some r := by
  intro N
  induction N generalizing I with
  | zero =>
    intro fuel hf _ he
    obtain ⟨m, rfl⟩ : ∃ m, fuel = m + 1 := ⟨fuel - 1, by omega⟩
    show (f (I 0)).bind _ = _
    rw [he]; rfl
  | succ N ih =>
    intro fuel hf hs he
    obtain ⟨m, rfl⟩ : ∃ m, fuel = m + 1 := ⟨fuel - 1, by omega⟩
    show (f (I 0)).bind _ = _
    rw [hs 0 (by omega)]
    show xo_lp f m (I 1) = some r
    exact ih (fun i => I (i + 1)) m (by omega) (fun i hi => hs (i + 1) (by omega)) he
theorem lp_go {σ ρ τ : Type} {f : σ → Option (σ ⊕ ρ)} {g : ρ → Option τ} {x0 : σ} {fuel : Nat} (I : Nat → σ) (N : Nat) (r : ρ) (h0 : x0 = I 0) (hN : N < fuel) (hs : ∀ i, i < N → f (I i) = some (.inl (I (i + 1)))) (he : f (I N) = some (.inr r)) : (xo_lp f fuel x0).bind g = g r := by
  rw [h0, lp_run I N fuel hN hs he]; rfl
/-- the set of all s < n with P as bits -/
def bm (P : Nat → Bool) : Nat → Nat
  | 0 => 0
  | n + 1 => bm P n ||| (if P n then 2 ^ n else 0)
theorem bm_tb (P : Nat → Bool) (n s : Nat) : (bm P n).testBit s = (decide (s < n) && P s) := by
  induction n with
  | zero => simp [bm]
  | succ n ih =>
    rw [bm, Nat.testBit_or, ih]
    by_cases hP : P n
    · rw [if_pos hP, Nat.testBit_two_pow]
      by_cases e : n = s
      · subst e; simp [hP]
      · have : (s < n + 1) = (s < n) := by simp; omega
        simp [this, e]
    · rw [if_neg hP, Nat.zero_testBit]
      by_cases e : n = s
      · subst e; simp [hP]
      · have : (s < n + 1) = (s < n) := by simp; omega
        simp [this]
theorem bm_lt (P : Nat → Bool) (n : Nat) : bm P n < 2 ^ n := by
  apply Nat.lt_pow_two_of_testBit
  intro i hi
  rw [bm_tb]
  have : ¬ i < n := by omega
  simp [this]
theorem bm_cong {P Q : Nat → Bool} {n : Nat} (h : ∀ s, s < n → P s = Q s) : bm P n = bm Q n := by
  apply Nat.eq_of_testBit_eq
  intro i
  rw [bm_tb, bm_tb]
  by_cases e : i < n
  · rw [h i e]
  · simp [e]
theorem bm_inj {P Q : Nat → Bool} {n : Nat} (h : bm P n = bm Q n) : ∀ s, s < n → P s = Q s := by
  intro s hs
  have := congrArg (fun m => m.testBit s) h
  simp only [bm_tb] at this
  simpa [hs] using this
theorem zI_or (a b : Nat) : zI (a : Int) ||| zI (b : Int) = zI ((a ||| b : Nat) : Int) := by rw [zI_n, zI_n, zI_n, fa_or]
theorem zI_and (a b : Nat) : zI (a : Int) &&& zI (b : Int) = zI ((a &&& b : Nat) : Int) := by rw [zI_n, zI_n, zI_n, fa_and]
theorem zI_xor (a b : Nat) : zI (a : Int) ^^^ zI (b : Int) = zI ((a ^^^ b : Nat) : Int) := by rw [zI_n, zI_n, zI_n, nx_xor]
theorem zI_bit : ∀ s : Nat, s < 32 → (1 : Int32) <<< (zI (s : Int) &&& 31) = zI ((2 ^ s : Nat) : Int) := by decide +kernel
end
section
/-! THE CLASS: what its small functions answer -/
def ab (k : Nat) (z : Int) : Prop := z.natAbs ≤ k
theorem ab_mul {j k : Nat} {x y : Int} (h : ab j x) (g : ab k y) : ab (j * k) (x * y) := by
  unfold ab at *; rw [Int.natAbs_mul]; exact Nat.mul_le_mul h g
theorem ab_add {j k : Nat} {x y : Int} (h : ab j x) (g : ab k y) : ab (j + k) (x + y) := by unfold ab at *; omega
theorem ab_sub {j k : Nat} {x y : Int} (h : ab j x) (g : ab k y) : ab (j + k) (x - y) := by unfold ab at *; omega
theorem ab_neg {j : Nat} {x : Int} (h : ab j x) : ab j (-x) := by unfold ab at *; omega
theorem ab_sg {k : Nat} {x : Int} (t : Int) (h : ab k x) : ab k (gz_sg t * x) := by
  unfold ab at *; rcases gz_sg_or t with e | e <;> rw [e] <;> omega
theorem ab_B {k : Nat} {z : Int} (h : ab k z) (hk : k < 2147483648) : zB z := by unfold ab at h; unfold zB; omega
theorem zB_n {k : Nat} (hk : k < 2147483648) : zB (k : Int) := ⟨by omega, by omega⟩
theorem zI_ge1 {n s : Nat} (hn : n < 1000) (h : s < n) : ¬ zI (n : Int) ≤ zI (s : Int) := by rw [zI_le (zB_n (by omega)) (zB_n (by omega))]; omega
theorem zI_rfl (x : Int) : zI x ≤ zI x := Int32.le_refl _
theorem zI_0 : (0 : Int32) = zI 0 := rfl
theorem zI_1 : (1 : Int32) = zI 1 := rfl
theorem zI_suc (s : Nat) : zI (s : Int) + (1 : Int32) = zI ((s + 1 : Nat) : Int) := by rw [zI_1, zI_add]; rfl
def gB (A B C : Nat → Int) (n : Nat) : Prop := ∀ s, s < n → ab 9 (A s) ∧ ab 9 (B s) ∧ ab 99 (C s)
def cL (st : XS) (n : Nat) (A B C : Nat → Int) : Prop := st.1 1 4 = zI (n : Int) ∧ n ≤ 6 ∧ (∀ s, s < n → st.1 3 s = zI (A s) ∧ st.1 4 s = zI (B s) ∧ st.1 5 s = zI (C s)) ∧ gB A B C n
theorem gt_ab {A B C : Nat → Int} {n : Nat} (h : gB A B C n) {p q : Int} (hp : ab 9 p) (hq : ab 9 q) {s : Nat} (hs : s < n) : ab 162 (gz_t A B p q s) := by
  obtain ⟨h1, h2, -⟩ := h s hs
  exact ab_sub (ab_mul hp h2) (ab_mul hq h1)
theorem gh_ab {A B C : Nat → Int} {n : Nat} (h : gB A B C n) {x y w : Int} (hx : ab 1782 x) (hy : ab 1782 y) (hw : ab 162 w) {s : Nat} (hs : s < n) : ab 48114 (gz_h A B C s x y w) := by
  obtain ⟨h1, h2, h3⟩ := h s hs
  exact ab_sub (ab_add (ab_mul h1 hx) (ab_mul h2 hy)) (ab_mul h3 hw)
theorem gX_ab {A B C : Nat → Int} {n : Nat} (h : gB A B C n) {p q r : Int} (hp : ab 9 p) (hq : ab 9 q) (hr : ab 99 r) {s : Nat} (hs : s < n) : ab 1782 (gz_X A B C p q r s) ∧ ab 1782 (gz_Y A B C p q r s) ∧ ab 162 (gz_W A B p q s) := by
  obtain ⟨h1, h2, h3⟩ := h s hs
  exact ⟨ab_sg _ (ab_sub (ab_mul hr h2) (ab_mul hq h3)), ab_sg _ (ab_sub (ab_mul hp h3) (ab_mul hr h1)), ab_sg _ (gt_ab h hp hq hs)⟩
theorem e_turn {st : XS} {n : Nat} {A B C : Nat → Int} (h : cL st n A B C) (p q : Int) {s : Nat} (hs : s < n) : F_Tow_turn (zI p) (zI q) (zI (s : Int)) st = some (zI (gz_t A B p q s)) := by
  obtain ⟨-, h6, hl, -⟩ := h
  obtain ⟨h1, h2, -⟩ := hl s hs
  unfold F_Tow_turn
  rw [xo_rd_z (by omega) (by decide), Option.bind_some, xo_rd_z (by omega) (by decide), Option.bind_some, h1, h2, zI_mul, zI_mul, zI_sub]
  rfl
theorem e_height {st : XS} {n : Nat} {A B C : Nat → Int} (h : cL st n A B C) (x y w : Int) {s : Nat} (hs : s < n) : F_Pla_height (zI x) (zI y) (zI w) (zI (s : Int)) st = some (zI (gz_h A B C s x y w)) := by
  obtain ⟨-, h6, hl, -⟩ := h
  obtain ⟨h1, h2, h3⟩ := hl s hs
  unfold F_Pla_height
  rw [xo_rd_z (by omega) (by decide), Option.bind_some, xo_rd_z (by omega) (by decide), Option.bind_some, xo_rd_z (by omega) (by decide), Option.bind_some, h1, h2, h3, zI_mul, zI_mul, zI_mul, zI_add, zI_sub]
  rfl
theorem e_sg {t z : Int} (ht : zB t) : (if (0 : Int32) ≤ zI t then some (zI z) else some (-zI z)) = some (zI (gz_sg t * z)) := by
  rw [zI_0]
  unfold gz_sg
  by_cases h : t < 0
  · rw [if_neg (by rw [zI_le (by decide) ht]; omega), if_pos h, zI_neg]; congr 2; omega
  · rw [if_pos (by rw [zI_le (by decide) ht]; omega), if_neg h, Int.one_mul]
theorem e_cX {st : XS} {n : Nat} {A B C : Nat → Int} (h : cL st n A B C) {i j : Nat} (hi : i < n) (hj : j < n) : F_Tow_crossingX (zI (i : Int)) (zI (j : Int)) st = some (zI (gz_X A B C (A i) (B i) (C i) j)) := by
  have ht := e_turn h (A i) (B i) hj
  obtain ⟨-, h6, hl, hb⟩ := h
  obtain ⟨h1, h2, h3⟩ := hl i hi
  obtain ⟨h4, h5, h7⟩ := hl j hj
  have hB := ab_B (gt_ab hb (hb i hi).1 (hb i hi).2.1 hj) (by decide)
  unfold F_Tow_crossingX xo_nm
  simp only [xo_rd_z (show i < 6 by omega) (by decide), xo_rd_z (show j < 6 by omega) (by decide), Option.bind_some, h1, h2, h3, h4, h5, h7, ht, zI_mul, zI_sub]
  rw [e_sg hB]
  rfl
theorem e_cY {st : XS} {n : Nat} {A B C : Nat → Int} (h : cL st n A B C) {i j : Nat} (hi : i < n) (hj : j < n) : F_Tow_crossingY (zI (i : Int)) (zI (j : Int)) st = some (zI (gz_Y A B C (A i) (B i) (C i) j)) := by
  have ht := e_turn h (A i) (B i) hj
  obtain ⟨-, h6, hl, hb⟩ := h
  obtain ⟨h1, h2, h3⟩ := hl i hi
  obtain ⟨h4, h5, h7⟩ := hl j hj
  have hB := ab_B (gt_ab hb (hb i hi).1 (hb i hi).2.1 hj) (by decide)
  unfold F_Tow_crossingY xo_nm
  simp only [xo_rd_z (show i < 6 by omega) (by decide), xo_rd_z (show j < 6 by omega) (by decide), Option.bind_some, h1, h2, h3, h4, h5, h7, ht, zI_mul, zI_sub]
  rw [e_sg hB]
  rfl
theorem e_cW {st : XS} {n : Nat} {A B C : Nat → Int} (h : cL st n A B C) {i j : Nat} (hi : i < n) (hj : j < n) : F_Tow_crossingBelow (zI (i : Int)) (zI (j : Int)) st = some (zI (gz_W A B (A i) (B i) j)) := by
  have ht := e_turn h (A i) (B i) hj
  obtain ⟨-, h6, hl, hb⟩ := h
  obtain ⟨h1, h2, h3⟩ := hl i hi
  have hB := ab_B (gt_ab hb (hb i hi).1 (hb i hi).2.1 hj) (by decide)
  unfold F_Tow_crossingBelow
  simp only [xo_rd_z (show i < 6 by omega) (by decide), Option.bind_some, h1, h2, ht]
  rw [zI_0]
  unfold gz_W gz_sg
  by_cases h : gz_t A B (A i) (B i) j < 0
  · rw [if_neg (by rw [zI_le (by decide) hB]; omega), if_pos h, zI_sub]; congr 2; omega
  · rw [if_pos (by rw [zI_le (by decide) hB]; omega), if_neg h, Int.one_mul]
theorem bm_suc_t {P : Nat → Bool} {s : Nat} (hs : s < 31) (h : P s = true) : zI ((bm P s : Nat) : Int) ||| ((1 : Int32) <<< (zI (s : Int) &&& 31)) = zI ((bm P (s + 1) : Nat) : Int) := by
  rw [zI_bit s (by omega), zI_or, bm, if_pos h]
theorem bm_suc_f {P : Nat → Bool} {s : Nat} (h : P s = false) : bm P (s + 1) = bm P s := by
  rw [bm, h]; simp
theorem e_through {st : XS} {n : Nat} {A B C : Nat → Int} (h : cL st n A B C) {x y w : Int} (hx : ab 1782 x) (hy : ab 1782 y) (hw : ab 162 w) : F_Pla_streetsThrough (zI x) (zI y) (zI w) st = some (zI ((bm (fun s => decide (gz_h A B C s x y w = 0)) n : Nat) : Int)) := by
  unfold F_Pla_streetsThrough
  refine (lp_go (fun i => (zI ((bm (fun s => decide (gz_h A B C s x y w = 0)) i : Nat) : Int), zI (i : Int))) n (zI ((bm (fun s => decide (gz_h A B C s x y w = 0)) n : Nat) : Int)) rfl (by have := h.2.1; omega) (fun i hi => ?_) ?_).trans rfl
  · unfold F_Pla_streetsThrough_b6
    have h6 := h.2.1
    dsimp only
    rw [h.1, if_neg (zI_ge1 (by omega) hi), e_height h x y w hi, Option.bind_some, zI_0]
    have hB := ab_B (gh_ab h.2.2.2 hx hy hw hi) (by decide)
    by_cases he : gz_h A B C i x y w = 0
    · rw [if_pos (by rw [zI_eq hB (by decide)]; exact he), bm_suc_t (by omega) (by simp [he]), zI_suc]; rfl
    · rw [if_neg (by rw [zI_eq hB (by decide)]; exact he), bm_suc_f (by simp [he]), zI_suc]; rfl
  · unfold F_Pla_streetsThrough_b6
    dsimp only
    rw [h.1, if_pos (zI_rfl _)]
theorem e_sides {st : XS} {n : Nat} {A B C : Nat → Int} (h : cL st n A B C) {x y w : Int} (hx : ab 1782 x) (hy : ab 1782 y) (hw : ab 162 w) : F_Pla_sidesOfPoint (zI x) (zI y) (zI w) st = some (zI ((bm (fun s => decide (0 < gz_h A B C s x y w)) n : Nat) : Int)) := by
  unfold F_Pla_sidesOfPoint
  refine (lp_go (fun i => (zI ((bm (fun s => decide (0 < gz_h A B C s x y w)) i : Nat) : Int), zI (i : Int))) n (zI ((bm (fun s => decide (0 < gz_h A B C s x y w)) n : Nat) : Int)) rfl (by have := h.2.1; omega) (fun i hi => ?_) ?_).trans rfl
  · unfold F_Pla_sidesOfPoint_b6
    have h6 := h.2.1
    dsimp only
    rw [h.1, if_neg (zI_ge1 (by omega) hi), e_height h x y w hi, Option.bind_some, zI_0]
    have hB := ab_B (gh_ab h.2.2.2 hx hy hw hi) (by decide)
    by_cases he : 0 < gz_h A B C i x y w
    · rw [if_neg (by rw [zI_le hB (by decide)]; omega), bm_suc_t (by omega) (by simp [he]), zI_suc]; rfl
    · rw [if_pos (by rw [zI_le hB (by decide)]; omega), bm_suc_f (by simp [he]), zI_suc]; rfl
  · unfold F_Pla_sidesOfPoint_b6
    dsimp only
    rw [h.1, if_pos (zI_rfl _)]
theorem e_far {st : XS} {n : Nat} {A B C : Nat → Int} (h : cL st n A B C) {p q g : Int} (hp : ab 9 p) (hq : ab 9 q) (hg : ab 1 g) : F_Pla_sidesFar (zI p) (zI q) (zI g) st = some (zI ((bm (fun s => decide (0 < g * gz_t A B p q s)) n : Nat) : Int)) := by
  unfold F_Pla_sidesFar
  refine (lp_go (fun i => (zI ((bm (fun s => decide (0 < g * gz_t A B p q s)) i : Nat) : Int), zI (i : Int))) n (zI ((bm (fun s => decide (0 < g * gz_t A B p q s)) n : Nat) : Int)) rfl (by have := h.2.1; omega) (fun i hi => ?_) ?_).trans rfl
  · unfold F_Pla_sidesFar_b6
    have h6 := h.2.1
    dsimp only
    rw [h.1, if_neg (zI_ge1 (by omega) hi), e_turn h p q hi, Option.bind_some, zI_0, zI_mul]
    have hB := ab_B (ab_mul hg (gt_ab h.2.2.2 hp hq hi)) (by decide)
    by_cases he : 0 < g * gz_t A B p q i
    · rw [if_neg (by rw [zI_le hB (by decide)]; omega), bm_suc_t (by omega) (by simp [he]), zI_suc]; rfl
    · rw [if_pos (by rw [zI_le hB (by decide)]; omega), bm_suc_f (by simp [he]), zI_suc]; rfl
  · unfold F_Pla_sidesFar_b6
    dsimp only
    rw [h.1, if_pos (zI_rfl _)]
end
section
/-! LONGS AS SETS of numbers below 64 -/
def lS (P : Nat → Bool) : Int64 := lN (bm P 64)
theorem bm64 (P : Nat → Bool) : bm P 64 < 2 ^ 64 := bm_lt P 64
theorem bm_one {v : Nat} {n : Nat} (hv : v < n) : bm (fun m => decide (m = v)) n = 2 ^ v := by
  apply Nat.eq_of_testBit_eq
  intro i
  rw [bm_tb, Nat.testBit_two_pow]
  by_cases e : v = i
  · subst e; simp [hv]
  · have : i ≠ v := fun h => e h.symm
    simp [e, this]
theorem bm_or (P Q : Nat → Bool) (n : Nat) : bm P n ||| bm Q n = bm (fun m => P m || Q m) n := by
  apply Nat.eq_of_testBit_eq
  intro i
  rw [Nat.testBit_or, bm_tb, bm_tb, bm_tb]
  cases decide (i < n) <;> simp
theorem bm_and (P Q : Nat → Bool) (n : Nat) : bm P n &&& bm Q n = bm (fun m => P m && Q m) n := by
  apply Nat.eq_of_testBit_eq
  intro i
  rw [Nat.testBit_and, bm_tb, bm_tb, bm_tb]
  cases decide (i < n) <;> simp
theorem bm_none (n : Nat) : bm (fun _ => false) n = 0 := by
  apply Nat.eq_of_testBit_eq
  intro i
  rw [bm_tb]; simp
theorem lS_cong {P Q : Nat → Bool} (h : ∀ m, m < 64 → P m = Q m) : lS P = lS Q := by unfold lS; rw [bm_cong h]
theorem lS_one {v : Nat} (hv : v < 64) : (1 : Int64) <<< ((zI (v : Int)).toInt64 &&& 63) = lS (fun m => decide (m = v)) := by
  unfold lS
  rw [bm_one hv, zI_n]
  have h := wb_shl 1 hv
  rw [Nat.one_mul] at h
  exact h
theorem lS_or (P Q : Nat → Bool) : lS P ||| lS Q = lS (fun m => P m || Q m) := by
  unfold lS
  rw [wb_or (bm64 P) (bm64 Q), bm_or]
theorem lS_and (P Q : Nat → Bool) : lS P &&& lS Q = lS (fun m => P m && Q m) := by
  unfold lS
  rw [wb_and (bm64 P) (bm64 Q), bm_and]
theorem lS_0 : (0 : Int64) = lS (fun _ => false) := by
  unfold lS; rw [bm_none]; rfl
theorem lS_1 : (1 : Int64) = lS (fun m => decide (m = 0)) := by
  unfold lS; rw [bm_one (by decide)]; rfl
theorem lS_inj {P Q : Nat → Bool} (h : lS P = lS Q) : ∀ m, m < 64 → P m = Q m := by
  unfold lS at h
  have h2 := congrArg (fun x => x.toBitVec.toNat) h
  rw [wb_tn (bm64 P), wb_tn (bm64 Q)] at h2
  exact bm_inj h2
theorem lS_shl (P : Nat → Bool) {s : Nat} (hs : s < 6) : lS P <<< (((1 : Int32) <<< (zI (s : Int) &&& 31)).toInt64 &&& 63) = lS (fun m => decide (2 ^ s ≤ m) && P (m - 2 ^ s)) := by
  rw [zI_bit s (by omega)]
  have h2 : 2 ^ s < 64 := by
    have : 2 ^ s < 2 ^ 6 := Nat.pow_lt_pow_right (by decide) hs
    omega
  unfold lS
  rw [zI_n, wb_shl _ h2, wb_mod]
  congr 1
  apply Nat.eq_of_testBit_eq
  intro i
  rw [Nat.testBit_mod_two_pow, Nat.testBit_mul_two_pow, bm_tb, bm_tb]
  by_cases h : i < 64
  · by_cases h3 : 2 ^ s ≤ i
    · have : i - 2 ^ s < 64 := Nat.lt_of_le_of_lt (Nat.sub_le _ _) h
      simp [h, h3, this]
    · simp [h, h3]
  · simp [h]
theorem lS_bit (P : Nat → Bool) {k : Nat} (hk : k < 64) : ((lS P >>> ((zI (k : Int)).toInt64 &&& 63)) &&& (1 : Int64)) = lN (if P k then 1 else 0) := by
  rw [zI_n, wb_c k hk]
  apply wb_inj
  rw [Int64.toBitVec_and, Int64.toBitVec_shiftRight, wb_tb, wb_sm k hk]
  apply BitVec.eq_of_getLsbD_eq
  intro i hi
  have e1 : (1 : Int64).toBitVec = 1#64 := rfl
  have e2 : (BitVec.ofNat 64 k).toNat = k := by rw [BitVec.toNat_ofNat, Nat.mod_eq_of_lt (by omega)]
  have e3 : (lS P).toBitVec.getLsbD k = P k := by
    unfold lS
    rw [wb_tb, BitVec.getLsbD_ofNat, bm_tb]
    simp [hk]
  rw [BitVec.getLsbD_and, e1, BitVec.sshiftRight_eq', e2, BitVec.getLsbD_sshiftRight]
  by_cases h0 : i = 0
  · subst h0
    rw [Nat.add_zero, if_pos hk, e3, wb_tb, BitVec.getLsbD_ofNat]
    cases P k <;> simp
  · have e5 : (1#64).getLsbD i = false := by simp [BitVec.getLsbD_one, h0]
    rw [e5, Bool.and_false, wb_tb, BitVec.getLsbD_ofNat]
    cases P k with
    | true =>
      have h1 := Nat.testBit_two_pow (n := 0) (m := i)
      rw [Nat.pow_zero] at h1
      rw [if_pos rfl, h1]; simp; omega
    | false => simp
theorem e_has (P : Nat → Bool) {x : Int} (hx : zB x) : F_All_has (lS P) (zI x) = some (zI (if 0 ≤ x ∧ x < 64 ∧ P x.toNat = true then 1 else 0)) := by
  unfold F_All_has
  have e64 : (64 : Int32) = zI 64 := rfl
  rw [zI_0, e64]
  by_cases h1 : x < 0
  · rw [if_pos ((zI_lt hx (by decide)).mpr h1), if_neg (by omega)]
  · rw [if_neg (by rw [zI_lt hx (by decide)]; exact h1)]
    by_cases h2 : 64 ≤ x
    · rw [if_pos ((zI_le (by decide) hx).mpr h2), if_neg (by omega)]
    · rw [if_neg (by rw [zI_le (by decide) hx]; exact h2)]
      obtain ⟨k, rfl⟩ : ∃ k : Nat, x = k := ⟨x.toNat, by omega⟩
      have hc : (lg_cmp (lS P >>> ((zI (k : Int)).toInt64 &&& 63) &&& 1) 0 = zI 0) ↔ P k = false := by
        rw [← zI_0, lg_cmp_eq, lS_bit P (show k < 64 by omega)]
        cases P k <;> decide
      have e : (↑k : Int).toNat = k := rfl
      rw [e]
      by_cases hP : P k = true
      · rw [if_neg (by rw [hc, hP]; decide), if_pos ⟨by omega, by omega, hP⟩]; rfl
      · rw [if_pos (by rw [hc]; simpa using hP), if_neg (fun z => hP z.2.2)]
end
section
/-! COUNTING BITS, byte by byte -/
theorem bc_split (x m : Nat) : ∀ (x0 x1 m0 m1 : Nat), x0 < 256 → m0 < 256 → x = x0 + 256 * x1 → m = m0 + 256 * m1 → x &&& m = (x0 &&& m0) + 256 * (x1 &&& m1) := by
  intro x0 x1 m0 m1 hx hm ex em
  have h1 := Nat.and_mod_two_pow (a := x) (b := m) (n := 8)
  have h2 := Nat.and_div_two_pow (a := x) (b := m) (n := 8)
  have e1 : x % 2 ^ 8 = x0 := by omega
  have e2 : m % 2 ^ 8 = m0 := by omega
  have e3 : x / 2 ^ 8 = x1 := by omega
  have e4 : m / 2 ^ 8 = m1 := by omega
  rw [e1, e2] at h1
  rw [e3, e4] at h2
  omega
def bc_R (w : Nat) : Nat → Nat
  | 0 => 0
  | k + 1 => w + 256 * bc_R w k
def bc_pop (d : Nat) : Nat := fb_ct d.testBit 8
def bc_S : Nat → Nat → Nat
  | 0, _ => 0
  | k + 1, m => bc_pop (m % 256) + 256 * bc_S k (m / 256)
def bc_1 (M m : Nat) : Nat := m - (m / 2 &&& M)
def bc_2 (M m : Nat) : Nat := (m &&& M) + (m / 4 &&& M)
def bc_3 (M m : Nat) : Nat := m + m / 16 &&& M
theorem bc_t1 : ∀ d, d < 256 → ∀ b, b < 2 → (d / 2 + 128 * b) &&& 85 = d / 2 &&& 85 := by decide +kernel
theorem bc_t1s : ∀ d, d < 256 → d / 2 &&& 85 ≤ d ∧ d - (d / 2 &&& 85) < 256 := by decide +kernel
theorem bc_t2 : ∀ d, d < 256 → ∀ b, b < 4 → (d / 4 + 64 * b) &&& 51 = d / 4 &&& 51 := by decide +kernel
theorem bc_t2s : ∀ d, d < 256 → (bc_2 51 d) % 16 ≤ 6 ∧ bc_2 51 d ≤ 102 := by decide +kernel
theorem bc_t3 : ∀ d, d < 103 → d % 16 ≤ 6 → ∀ b, b < 7 → (d + d / 16 + 16 * b) &&& 15 = d + d / 16 &&& 15 := by decide +kernel
theorem bc_t4 : ∀ d, d < 256 → bc_3 15 (bc_2 51 (bc_1 85 d)) = bc_pop d := by decide +kernel
theorem bc_all : ∀ k m, m < 256 ^ k → (m / 2 &&& bc_R 85 k) ≤ m ∧ bc_1 (bc_R 85 k) m < 256 ^ k ∧ bc_2 (bc_R 51 k) (bc_1 (bc_R 85 k) m) % 16 ≤ 6 ∧ bc_3 (bc_R 15 k) (bc_2 (bc_R 51 k) (bc_1 (bc_R 85 k) m)) = bc_S k m := by
  intro k
  induction k with
  | zero =>
    intro m hm
    have : m = 0 := by simpa using hm
    subst this
    decide
  | succ k ih =>
    intro m hm
    have hp : 256 ^ (k + 1) = 256 * 256 ^ k := by rw [Nat.pow_succ]; omega
    obtain ⟨i1, i2, i3, i4⟩ := ih (m / 256) (by omega)
    have hd : m % 256 < 256 := Nat.mod_lt _ (by decide)
    generalize hD : m % 256 = d at hd
    generalize hM : m / 256 = m1 at i1 i2 i3 i4
    have em : m = d + 256 * m1 := by omega
    have a1 : m / 2 &&& bc_R 85 (k + 1) = (d / 2 &&& 85) + 256 * (m1 / 2 &&& bc_R 85 k) := by
      rw [bc_split (m / 2) (bc_R 85 (k + 1)) (d / 2 + 128 * (m1 % 2)) (m1 / 2) 85 (bc_R 85 k) (by omega) (by decide) (by omega) rfl, bc_t1 d hd _ (by omega)]
    have a2 := bc_t1s d hd
    have a3 : bc_1 (bc_R 85 (k + 1)) m = bc_1 85 d + 256 * bc_1 (bc_R 85 k) m1 := by
      unfold bc_1; rw [a1]; omega
    have a4 : bc_1 85 d < 256 := a2.2
    have a5 := bc_t4 d hd
    generalize bc_1 85 d = e at a3 a4 a5
    generalize bc_1 (bc_R 85 k) m1 = v at i2 i3 i4 a3
    generalize hv : bc_1 (bc_R 85 (k + 1)) m = V at a3
    have b1 : bc_2 (bc_R 51 (k + 1)) V = bc_2 51 e + 256 * bc_2 (bc_R 51 k) v := by
      unfold bc_2
      rw [bc_split V (bc_R 51 (k + 1)) e v 51 (bc_R 51 k) a4 (by decide) a3 rfl, bc_split (V / 4) (bc_R 51 (k + 1)) (e / 4 + 64 * (v % 4)) (v / 4) 51 (bc_R 51 k) (by omega) (by decide) (by omega) rfl, bc_t2 e a4 _ (by omega)]
      omega
    have b2 := bc_t2s e a4
    generalize bc_2 51 e = f at a5 b1 b2
    generalize bc_2 (bc_R 51 k) v = u at i3 i4 b1
    generalize hu : bc_2 (bc_R 51 (k + 1)) V = U at b1
    have c1 : bc_3 (bc_R 15 (k + 1)) U = bc_3 15 f + 256 * bc_3 (bc_R 15 k) u := by
      unfold bc_3
      rw [bc_split (U + U / 16) (bc_R 15 (k + 1)) (f + f / 16 + 16 * (u % 16)) (u + u / 16) 15 (bc_R 15 k) (by omega) (by decide) (by omega) rfl, bc_t3 f (by omega) b2.1 _ (by omega)]
    refine ⟨?_, ?_, ?_, ?_⟩
    · rw [a1]; omega
    · rw [a3]; omega
    · rw [b1]; omega
    · rw [c1, a5, i4]
      show _ = bc_pop (m % 256) + 256 * bc_S k (m / 256)
      rw [hD, hM]
theorem bc_pop_le (d : Nat) : bc_pop d ≤ 8 := fb_ct_le _ 8
def bc_T : Nat → Nat → Nat
  | 0, _ => 0
  | k + 1, m => bc_pop (m % 256) + bc_T k (m / 256)
theorem bc_T_ct : ∀ k m, bc_T k m = fb_ct m.testBit (8 * k)
  | 0, _ => rfl
  | k + 1, m => by
    have e : 8 * (k + 1) = 8 + 8 * k := by omega
    rw [bc_T, bc_T_ct k, e, fb_ct_split]
    congr 1
    · unfold bc_pop
      apply fb_ct_cong
      intro j hj
      have h := Nat.testBit_mod_two_pow m 8 j
      rw [show (256 : Nat) = 2 ^ 8 from rfl, h]
      simp [hj]
    · apply fb_ct_cong
      intro j _
      rw [show (256 : Nat) = 2 ^ 8 from rfl, Nat.testBit_div_two_pow, Nat.add_comm]
theorem bc_g8 {d0 R : Nat} (h0 : d0 < 256) : (d0 + 256 * R) / 2 ^ 8 = R := by omega
theorem bc_g16 {d0 d1 R : Nat} (h0 : d0 < 256) (h1 : d1 < 256) : (d0 + 256 * (d1 + 256 * R)) / 2 ^ 16 = R := by omega
theorem bc_g32 {d0 d1 d2 d3 R : Nat} (h0 : d0 < 256) (h1 : d1 < 256) (h2 : d2 < 256) (h3 : d3 < 256) : (d0 + 256 * (d1 + 256 * (d2 + 256 * (d3 + 256 * R)))) / 2 ^ 32 = R := by omega
theorem bc_bd {a R n : Nat} (h : a < 256) (hR : R < 256 ^ n) : a + 256 * R < 256 ^ (n + 1) := by rw [Nat.pow_succ]; omega
theorem bc_low {a R : Nat} (h : a < 128) : (a + 256 * R) % 128 = a := by omega
theorem bc_c4 {c0 c1 c2 c3 c4 c5 c6 c7 : Nat} (h0 : c0 ≤ 8) (h1 : c1 ≤ 8) (h2 : c2 ≤ 8) (h3 : c3 ≤ 8) (h4 : c4 ≤ 8) (h5 : c5 ≤ 8) (h6 : c6 ≤ 8) (h7 : c7 ≤ 8) : (c0 + 256 * (c1 + 256 * (c2 + 256 * (c3 + 256 * (c4 + 256 * (c5 + 256 * (c6 + 256 * (c7)))))))) + (c0 + 256 * (c1 + 256 * (c2 + 256 * (c3 + 256 * (c4 + 256 * (c5 + 256 * (c6 + 256 * (c7)))))))) / 2 ^ 8 = ((c0 + c1) + 256 * ((c1 + c2) + 256 * ((c2 + c3) + 256 * ((c3 + c4) + 256 * ((c4 + c5) + 256 * ((c5 + c6) + 256 * ((c6 + c7) + 256 * (c7)))))))) := by
  rw [bc_g8 (by omega)]; omega
theorem bc_c5 {c0 c1 c2 c3 c4 c5 c6 c7 : Nat} (h0 : c0 ≤ 8) (h1 : c1 ≤ 8) (h2 : c2 ≤ 8) (h3 : c3 ≤ 8) (h4 : c4 ≤ 8) (h5 : c5 ≤ 8) (h6 : c6 ≤ 8) (h7 : c7 ≤ 8) : ((c0 + c1) + 256 * ((c1 + c2) + 256 * ((c2 + c3) + 256 * ((c3 + c4) + 256 * ((c4 + c5) + 256 * ((c5 + c6) + 256 * ((c6 + c7) + 256 * (c7)))))))) + ((c0 + c1) + 256 * ((c1 + c2) + 256 * ((c2 + c3) + 256 * ((c3 + c4) + 256 * ((c4 + c5) + 256 * ((c5 + c6) + 256 * ((c6 + c7) + 256 * (c7)))))))) / 2 ^ 16 = (((c0 + c1) + (c2 + c3)) + 256 * (((c1 + c2) + (c3 + c4)) + 256 * (((c2 + c3) + (c4 + c5)) + 256 * (((c3 + c4) + (c5 + c6)) + 256 * (((c4 + c5) + (c6 + c7)) + 256 * (((c5 + c6) + c7) + 256 * ((c6 + c7) + 256 * (c7)))))))) := by
  rw [bc_g16 (by omega) (by omega)]; omega
theorem bc_c6 {c0 c1 c2 c3 c4 c5 c6 c7 : Nat} (h0 : c0 ≤ 8) (h1 : c1 ≤ 8) (h2 : c2 ≤ 8) (h3 : c3 ≤ 8) (h4 : c4 ≤ 8) (h5 : c5 ≤ 8) (h6 : c6 ≤ 8) (h7 : c7 ≤ 8) : (((c0 + c1) + (c2 + c3)) + 256 * (((c1 + c2) + (c3 + c4)) + 256 * (((c2 + c3) + (c4 + c5)) + 256 * (((c3 + c4) + (c5 + c6)) + 256 * (((c4 + c5) + (c6 + c7)) + 256 * (((c5 + c6) + c7) + 256 * ((c6 + c7) + 256 * (c7)))))))) + (((c0 + c1) + (c2 + c3)) + 256 * (((c1 + c2) + (c3 + c4)) + 256 * (((c2 + c3) + (c4 + c5)) + 256 * (((c3 + c4) + (c5 + c6)) + 256 * (((c4 + c5) + (c6 + c7)) + 256 * (((c5 + c6) + c7) + 256 * ((c6 + c7) + 256 * (c7)))))))) / 2 ^ 32 = ((((c0 + c1) + (c2 + c3)) + ((c4 + c5) + (c6 + c7))) + 256 * ((((c1 + c2) + (c3 + c4)) + ((c5 + c6) + c7)) + 256 * ((((c2 + c3) + (c4 + c5)) + (c6 + c7)) + 256 * ((((c3 + c4) + (c5 + c6)) + c7) + 256 * (((c4 + c5) + (c6 + c7)) + 256 * (((c5 + c6) + c7) + 256 * ((c6 + c7) + 256 * (c7)))))))) := by
  rw [bc_g32 (by omega) (by omega) (by omega) (by omega)]; omega
theorem bc_c7 {c0 c1 c2 c3 c4 c5 c6 c7 : Nat} (h0 : c0 ≤ 8) (h1 : c1 ≤ 8) (h2 : c2 ≤ 8) (h3 : c3 ≤ 8) (h4 : c4 ≤ 8) (h5 : c5 ≤ 8) (h6 : c6 ≤ 8) (h7 : c7 ≤ 8) : ((((c0 + c1) + (c2 + c3)) + ((c4 + c5) + (c6 + c7))) + 256 * ((((c1 + c2) + (c3 + c4)) + ((c5 + c6) + c7)) + 256 * ((((c2 + c3) + (c4 + c5)) + (c6 + c7)) + 256 * ((((c3 + c4) + (c5 + c6)) + c7) + 256 * (((c4 + c5) + (c6 + c7)) + 256 * (((c5 + c6) + c7) + 256 * ((c6 + c7) + 256 * (c7)))))))) < 2 ^ 64 ∧ ((((c0 + c1) + (c2 + c3)) + ((c4 + c5) + (c6 + c7))) + 256 * ((((c1 + c2) + (c3 + c4)) + ((c5 + c6) + c7)) + 256 * ((((c2 + c3) + (c4 + c5)) + (c6 + c7)) + 256 * ((((c3 + c4) + (c5 + c6)) + c7) + 256 * (((c4 + c5) + (c6 + c7)) + 256 * (((c5 + c6) + c7) + 256 * ((c6 + c7) + 256 * (c7)))))))) % 128 = c0 + (c1 + (c2 + (c3 + (c4 + (c5 + (c6 + (c7 + 0))))))) := by
  refine ⟨?_, ?_⟩
  · rw [show (2 : Nat) ^ 64 = 256 ^ 8 from by decide]
    exact bc_bd (by omega) (bc_bd (by omega) (bc_bd (by omega) (bc_bd (by omega) (bc_bd (by omega) (bc_bd (by omega) (bc_bd (by omega) (by omega)))))))
  · rw [bc_low (by omega)]
    omega
theorem bc_sum (m : Nat) : (bc_S 8 m + bc_S 8 m / 2 ^ 8) < 2 ^ 64 ∧ ∀ v4 v5 v6, v4 = bc_S 8 m + bc_S 8 m / 2 ^ 8 → v5 = v4 + v4 / 2 ^ 16 → v6 = v5 + v5 / 2 ^ 32 → v6 < 2 ^ 64 ∧ v6 % 128 = bc_T 8 m := by
  have key : ∀ v4 v5 v6, v4 = bc_S 8 m + bc_S 8 m / 2 ^ 8 → v5 = v4 + v4 / 2 ^ 16 → v6 = v5 + v5 / 2 ^ 32 → v6 < 2 ^ 64 ∧ v6 % 128 = bc_T 8 m := by
    intro v4 v5 v6 q4 q5 q6
    have p0 := bc_pop_le (m % 256)
    have p1 := bc_pop_le (m / 256 % 256)
    have p2 := bc_pop_le (m / 256 / 256 % 256)
    have p3 := bc_pop_le (m / 256 / 256 / 256 % 256)
    have p4 := bc_pop_le (m / 256 / 256 / 256 / 256 % 256)
    have p5 := bc_pop_le (m / 256 / 256 / 256 / 256 / 256 % 256)
    have p6 := bc_pop_le (m / 256 / 256 / 256 / 256 / 256 / 256 % 256)
    have p7 := bc_pop_le (m / 256 / 256 / 256 / 256 / 256 / 256 / 256 % 256)
    have r4 := bc_c4 p0 p1 p2 p3 p4 p5 p6 p7
    have q4' := q4.trans r4
    rw [q4', bc_c5 p0 p1 p2 p3 p4 p5 p6 p7] at q5
    rw [q5, bc_c6 p0 p1 p2 p3 p4 p5 p6 p7] at q6
    rw [q6]
    exact bc_c7 p0 p1 p2 p3 p4 p5 p6 p7
  refine ⟨?_, key⟩
  have := (key _ _ _ rfl rfl rfl).1
  omega
theorem bc_at {n : Nat} (j : Nat) (hn : n < 2 ^ 64) (hj : j < 64) {m : Nat} (hm : m < 2 ^ 64) : ((lN n).toUInt64 >>> ((nI j).toInt64.toUInt64 &&& Int64.toUInt64 63)).toInt64 &&& lN m = lN (n / 2 ^ j &&& m) := by
  rw [wb_shr hn hj, wb_and (Nat.lt_of_le_of_lt (Nat.div_le_self _ _) hn) hm]
theorem bc_k85 : (6148914691236517205 : Int64) = lN (bc_R 85 8) := by decide +kernel
theorem bc_k51 : (3689348814741910323 : Int64) = lN (bc_R 51 8) := by decide +kernel
theorem bc_k15 : (1085102592571150095 : Int64) = lN (bc_R 15 8) := by decide +kernel
theorem bc_kb : bc_R 85 8 < 2 ^ 64 ∧ bc_R 51 8 < 2 ^ 64 ∧ bc_R 15 8 < 2 ^ 64 := by decide
theorem bc_2b (M m : Nat) (h : m < 2 ^ 64) (hM : M < 2 ^ 62) : bc_2 M m < 2 ^ 64 := by
  have h1 : m &&& M ≤ M := Nat.and_le_right
  have h2 : m / 4 &&& M ≤ M := Nat.and_le_right
  unfold bc_2; omega
theorem xo_nm_b {α β : Type} (v : α) (f : α → Option β) : xo_nm v f = f v := rfl
theorem e_count (P : Nat → Bool) : F_Lng_bitCount (lS P) = some (zI ((fb_ct P 64 : Nat) : Int)) := by
  unfold lS
  have hm := bm64 P
  have hc : fb_ct P 64 = bc_T 8 (bm P 64) := by
    rw [bc_T_ct]
    apply fb_ct_cong
    intro k hk
    rw [bm_tb]; simp [hk]
  rw [hc]
  generalize bm P 64 = m at hm
  have h256 : (256 : Nat) ^ 8 = 2 ^ 64 := by decide
  obtain ⟨h1, h2, -, h4⟩ := bc_all 8 m (by omega)
  have hs := bc_sum m
  unfold F_Lng_bitCount
  have i1 : (1 : Int32) = nI 1 := rfl
  have i2 : (2 : Int32) = nI 2 := rfl
  have i4 : (4 : Int32) = nI 4 := rfl
  have i8 : (8 : Int32) = nI 8 := rfl
  have i16 : (16 : Int32) = nI 16 := rfl
  have i32 : (32 : Int32) = nI 32 := rfl
  have i127 : (127 : Int32) = nI 127 := rfl
  rw [bc_k85, bc_k51, bc_k15, i1, i2, i4, i8, i16, i32, i127]
  rw [bc_at 1 hm (by decide) bc_kb.1, show m / 2 ^ 1 = m / 2 from rfl, lN_sub h1, xo_nm_b]
  have g1 : m - (m / 2 &&& bc_R 85 8) = bc_1 (bc_R 85 8) m := rfl
  rw [g1]
  have b1 : bc_1 (bc_R 85 8) m < 2 ^ 64 := by rw [← g1]; omega
  generalize bc_1 (bc_R 85 8) m = v1 at *
  rw [bc_at 2 b1 (by decide) bc_kb.2.1, wb_and b1 bc_kb.2.1, lN_add, xo_nm_b]
  have g2 : (v1 &&& bc_R 51 8) + (v1 / 2 ^ 2 &&& bc_R 51 8) = bc_2 (bc_R 51 8) v1 := rfl
  rw [g2]
  have b2 : bc_2 (bc_R 51 8) v1 < 2 ^ 64 := bc_2b _ _ b1 (by decide)
  have b2' : bc_2 (bc_R 51 8) v1 < 2 ^ 63 := by
    have h1 : v1 &&& bc_R 51 8 ≤ bc_R 51 8 := Nat.and_le_right
    have h2 : v1 / 4 &&& bc_R 51 8 ≤ bc_R 51 8 := Nat.and_le_right
    have h3 : bc_R 51 8 < 2 ^ 62 := by decide
    unfold bc_2; omega
  generalize bc_2 (bc_R 51 8) v1 = v2 at *
  rw [wb_shr b2 (by decide), lN_add, wb_and (by omega) bc_kb.2.2, xo_nm_b]
  have g3 : (v2 + v2 / 2 ^ 4 &&& bc_R 15 8) = bc_3 (bc_R 15 8) v2 := rfl
  rw [g3, h4]
  have b3 : bc_S 8 m < 2 ^ 64 := by omega
  generalize hv : bc_S 8 m = v3 at *
  obtain ⟨hs0, hs1⟩ := hs
  rw [wb_shr b3 (by decide), lN_add, xo_nm_b]
  generalize h4' : v3 + v3 / 2 ^ 8 = v4 at *
  rw [wb_shr hs0 (by decide), lN_add, xo_nm_b]
  generalize h5' : v4 + v4 / 2 ^ 16 = v5 at *
  obtain ⟨k1, k2⟩ := hs1 v4 v5 _ rfl h5'.symm rfl
  have b5 : v5 < 2 ^ 64 := by omega
  rw [wb_shr b5 (by decide), lN_add, xo_nm_b, lN_i, fa_and, zI_n, ← k2]
  congr 2
  exact Nat.and_two_pow_sub_one_eq_mod _ 7
theorem e_icount : ∀ k : Nat, k < 256 → F_Int_bitCount (zI (k : Int)) = some (zI ((fb_ct k.testBit 8 : Nat) : Int)) := by decide +kernel
end
section
/-! WHAT A LINE CUTS, as the class counts it -/
def an (P : Nat → Bool) : Nat → Bool
  | 0 => false
  | n + 1 => an P n || P n
theorem an_iff {P : Nat → Bool} : ∀ {n : Nat}, an P n = true ↔ ∃ s, s < n ∧ P s = true
  | 0 => ⟨(fun h => by cases h), fun ⟨s, h, _⟩ => absurd h (Nat.not_lt_zero s)⟩
  | n + 1 => by
    rw [an, Bool.or_eq_true, an_iff]
    constructor
    · rintro (⟨s, h, g⟩ | h)
      · exact ⟨s, by omega, g⟩
      · exact ⟨n, by omega, h⟩
    · rintro ⟨s, h, g⟩
      by_cases e : s = n
      · subst e; exact Or.inr g
      · exact Or.inl ⟨s, by omega, g⟩
theorem bm_iff {P : Nat → Bool} {n m : Nat} (hm : m < 2 ^ n) : m = bm P n ↔ ∀ t, t < n → (m.testBit t = true ↔ P t = true) := by
  constructor
  · intro e t ht
    rw [e, bm_tb]; simp [ht]
  · intro h
    apply Nat.eq_of_testBit_eq
    intro i
    rw [bm_tb]
    by_cases hi : i < n
    · have h1 := h i hi
      simp only [hi, decide_true, Bool.true_and]
      cases hm : m.testBit i <;> cases hP : P i <;> simp_all
    · have h1 : m.testBit i = false := Nat.testBit_lt_two_pow (Nat.lt_of_lt_of_le hm (Nat.pow_le_pow_right (by decide) (by omega)))
      simp [hi, h1]
def gc_far (A B : Nat → Int) (p q : Int) (n : Nat) : Nat := bm (fun s => decide (0 < 1 * gz_t A B p q s)) n
def gc_at (A B C : Nat → Int) (p q r : Int) (n s : Nat) : Nat := bm (fun t => decide (0 < gz_e A B C p q r s t) || (decide (gz_e A B C p q r s t = 0) && decide (0 < -1 * gz_t A B p q t))) n
def gc_K (A B C : Nat → Int) (p q r : Int) (n i m : Nat) : Bool := decide (m = gc_far A B p q n) || an (fun s => decide (gz_t A B p q s ≠ 0) && decide (m = gc_at A B C p q r n s)) i
theorem gc_K_iff {A B C : Nat → Int} {p q r : Int} {n m : Nat} : gc_K A B C p q r n n m = true ↔ m < 2 ^ n ∧ gz_cut A B C n p q r m := by
  unfold gc_K gz_cut
  rw [Bool.or_eq_true, an_iff]
  simp only [Bool.and_eq_true, decide_eq_true_eq]
  constructor
  · rintro (h | ⟨s, hs, ht, h⟩)
    · have hm : m < 2 ^ n := by rw [h]; exact bm_lt _ _
      refine ⟨hm, Or.inl fun t ht => ?_⟩
      rw [(bm_iff hm).mp h t ht, Int.one_mul, decide_eq_true_eq]
    · have hm : m < 2 ^ n := by rw [h]; exact bm_lt _ _
      refine ⟨hm, Or.inr ⟨s, hs, ht, fun t ht => ?_⟩⟩
      rw [(bm_iff hm).mp h t ht]
      simp only [Bool.or_eq_true, Bool.and_eq_true, decide_eq_true_eq]
      constructor
      · rintro (z | ⟨z, y⟩)
        · exact Or.inl z
        · exact Or.inr ⟨z, by omega⟩
      · rintro (z | ⟨z, y⟩)
        · exact Or.inl z
        · exact Or.inr ⟨z, by omega⟩
  · rintro ⟨hm, h | ⟨s, hs, ht, h⟩⟩
    · refine Or.inl ((bm_iff hm).mpr fun t ht => ?_)
      rw [h t ht, Int.one_mul, decide_eq_true_eq]
    · refine Or.inr ⟨s, hs, ht, (bm_iff hm).mpr fun t ht => ?_⟩
      rw [h t ht]
      simp only [Bool.or_eq_true, Bool.and_eq_true, decide_eq_true_eq]
      constructor
      · rintro (z | ⟨z, y⟩)
        · exact Or.inl z
        · exact Or.inr ⟨z, by omega⟩
      · rintro (z | ⟨z, y⟩)
        · exact Or.inl z
        · exact Or.inr ⟨z, by omega⟩
theorem p2_64 {n : Nat} (h : n ≤ 6) : 2 ^ n ≤ 64 := (Nat.pow_le_pow_right (n := 2) (by decide) h : 2 ^ n ≤ 2 ^ 6)
theorem e_cut_m {st : XS} {n : Nat} {A B C : Nat → Int} (h : cL st n A B C) {p q r : Int} (hp : ab 9 p) (hq : ab 9 q) (hr : ab 99 r) {i : Nat} (hi : i < n) (hne : gz_t A B p q i ≠ 0) : F_Pla_cutBy_m54 (zI p) (zI q) (zI r) (lS (gc_K A B C p q r n i)) (zI (i : Int)) (zI (gz_t A B p q i)) (zI (gz_sg (gz_t A B p q i))) st = some (.inl (lS (gc_K A B C p q r n (i + 1)), zI ((i + 1 : Nat) : Int))) := by
  have h6 := h.2.1
  obtain ⟨h1, h2, h3⟩ := h.2.2.1 i hi
  obtain ⟨bX, bY, bW⟩ := gX_ab h.2.2.2 hp hq hr hi
  unfold F_Pla_cutBy_m54
  simp only [xo_nm_b, xo_rd_z (show i < 6 by omega) (by decide), Option.bind_some, h1, h2, h3, zI_mul, zI_sub]
  have eX : gz_sg (gz_t A B p q i) * (r * B i - q * C i) = gz_X A B C p q r i := rfl
  have eY : gz_sg (gz_t A B p q i) * (p * C i - r * A i) = gz_Y A B C p q r i := rfl
  have eW : gz_sg (gz_t A B p q i) * gz_t A B p q i = gz_W A B p q i := rfl
  have e1 : (-1 : Int32) = zI (-1) := rfl
  rw [eX, eY, eW, e_sides h bX bY bW, Option.bind_some, e_through h bX bY bW, Option.bind_some, e1, e_far h hp hq (show ab 1 (-1) from Nat.le_refl 1), Option.bind_some, zI_and, zI_or, bm_and, bm_or]
  have hv : gc_at A B C p q r n i < 64 := Nat.lt_of_lt_of_le (bm_lt _ _) (p2_64 h6)
  have eV : bm (fun m => decide (0 < gz_h A B C m (gz_X A B C p q r i) (gz_Y A B C p q r i) (gz_W A B p q i)) || (decide (gz_h A B C m (gz_X A B C p q r i) (gz_Y A B C p q r i) (gz_W A B p q i) = 0) && decide (0 < -1 * gz_t A B p q m))) n = gc_at A B C p q r n i := rfl
  rw [eV, lS_one hv, lS_or, zI_suc]
  have eK : lS (fun m => gc_K A B C p q r n i m || decide (m = gc_at A B C p q r n i)) = lS (gc_K A B C p q r n (i + 1)) := by
    apply lS_cong
    intro m _
    unfold gc_K
    rw [an, ← Bool.or_assoc]
    simp [hne]
  rw [eK]
theorem e_cut {st : XS} {n : Nat} {A B C : Nat → Int} (h : cL st n A B C) {p q r : Int} (hp : ab 9 p) (hq : ab 9 q) (hr : ab 99 r) : F_Pla_cutBy (zI p) (zI q) (zI r) st = some (lS (gc_K A B C p q r n n)) := by
  have h6 := h.2.1
  unfold F_Pla_cutBy
  rw [zI_1, e_far h hp hq (show ab 1 1 from Nat.le_refl 1), Option.bind_some]
  have hv : gc_far A B p q n < 64 := Nat.lt_of_lt_of_le (bm_lt _ _) (p2_64 h6)
  have eV : bm (fun s => decide (0 < 1 * gz_t A B p q s)) n = gc_far A B p q n := rfl
  rw [eV, lS_one hv, xo_nm_b]
  refine (lp_go (fun i => (lS (gc_K A B C p q r n i), zI (i : Int))) n (lS (gc_K A B C p q r n n)) ?_ (by omega) (fun i hi => ?_) ?_).trans rfl
  · congr 1
    apply lS_cong
    intro m _
    unfold gc_K
    rw [an, Bool.or_false]
  · unfold F_Pla_cutBy_b14
    dsimp only
    rw [h.1, if_neg (zI_ge1 (by omega) hi), e_turn h p q hi, Option.bind_some, zI_0]
    have hB := ab_B (gt_ab h.2.2.2 hp hq hi) (by decide)
    by_cases he : gz_t A B p q i = 0
    · rw [if_pos (by rw [zI_eq hB (by decide)]; exact he), xo_nm_b, zI_suc]
      congr 3
      apply lS_cong
      intro m _
      unfold gc_K
      rw [an, he]
      simp
    · rw [if_neg (by rw [zI_eq hB (by decide)]; exact he)]
      have hm := e_cut_m h hp hq hr hi he
      by_cases hs : gz_t A B p q i < 0
      · rw [if_neg (by rw [zI_le (by decide) hB]; omega)]
        rw [show gz_sg (gz_t A B p q i) = -1 from if_pos hs] at hm
        exact hm
      · rw [if_pos (by rw [zI_le (by decide) hB]; omega)]
        rw [show gz_sg (gz_t A B p q i) = 1 from if_neg hs] at hm
        exact hm
  · unfold F_Pla_cutBy_b14
    dsimp only
    rw [h.1, if_pos (zI_rfl _)]
end
section
/-! THE QUARTERS AND THE OPEN ONES, as the class counts them -/
theorem lp_inv {σ ρ : Type} {f : σ → Option (σ ⊕ ρ)} (I : Nat → σ → Prop) (Q : ρ → Prop) : ∀ (N fuel : Nat) (x0 : σ), N < fuel → I 0 x0 → (∀ i x, i < N → I i x → ∃ y, f x = some (.inl y) ∧ I (i + 1) y) → (∀ x, I N x → ∃ r, f x = some (.inr r) ∧ Q r) → ∃ r, xo_lp f fuel x0 = some r ∧ Q r := by
  intro N
  induction N generalizing I with
  | zero =>
    intro fuel x0 hf h0 _ he
    obtain ⟨m, rfl⟩ : ∃ m, fuel = m + 1 := ⟨fuel - 1, by omega⟩
    obtain ⟨r, h1, h2⟩ := he x0 h0
    refine ⟨r, ?_, h2⟩
    show (f x0).bind _ = _
    rw [h1]; rfl
  | succ N ih =>
    intro fuel x0 hf h0 hs he
    obtain ⟨m, rfl⟩ : ∃ m, fuel = m + 1 := ⟨fuel - 1, by omega⟩
    obtain ⟨y, h1, h2⟩ := hs 0 x0 (by omega) h0
    obtain ⟨r, h3, h4⟩ := ih (fun i => I (i + 1)) m y (by omega) h2 (fun i x hi hx => hs (i + 1) x (by omega) hx) he
    refine ⟨r, ?_, h4⟩
    show (f x0).bind _ = _
    rw [h1]; exact h3
theorem cL_of {st t : XS} {n : Nat} {A B C : Nat → Int} (h : cL st n A B C) (e : t.1 = st.1) : cL t n A B C := by
  unfold cL at *
  rw [e]; exact h
def gq_two (c : Nat → Bool) (s m : Nat) : Bool := c m || (decide (2 ^ s ≤ m) && c (m - 2 ^ s))
theorem e_both (c : Nat → Bool) {s : Nat} (hs : s < 6) : F_Pla_onBothSides (lS c) (zI (s : Int)) = some (lS (gq_two c s)) := by
  unfold F_Pla_onBothSides
  rw [lS_shl c hs, lS_or]; rfl
def gc_back (A B : Nat → Int) (p q : Int) (n : Nat) : Nat := bm (fun s => decide (0 < -1 * gz_t A B p q s)) n
def gq_cs (A B C : Nat → Int) (n s : Nat) : Nat → Bool := gc_K A B C (A s) (B s) (C s) n n
def gq_es (A B : Nat → Int) (n s m : Nat) : Bool := decide (m = gc_far A B (A s) (B s) n) || decide (m = gc_back A B (A s) (B s) n)
def gq_Q (A B C : Nat → Int) (n i m : Nat) : Bool := (decide (n = 0) && decide (m = 0)) || an (fun s => gq_two (gq_cs A B C n s) s m) i
def gq_O (A B : Nat → Int) (n i m : Nat) : Bool := (decide (n = 0) && decide (m = 0)) || an (fun s => gq_two (gq_es A B n s) s m) i
theorem e_quart {st : XS} {n : Nat} {A B C : Nat → Int} (h : cL st n A B C) : ∃ t, F_Pla_measureQuarters st = some t ∧ t.1 = st.1 ∧ t.2 0 = lS (gq_Q A B C n n) ∧ t.2 1 = lS (gq_O A B n n) := by
  have h6 := h.2.1
  have key : ∀ k1 : Int64, k1 = lS (fun m => decide (n = 0) && decide (m = 0)) → ∃ t, F_Pla_measureQuarters_m16 k1 st = some t ∧ t.1 = st.1 ∧ t.2 0 = lS (gq_Q A B C n n) ∧ t.2 1 = lS (gq_O A B n n) := by
    intro k1 hk
    unfold F_Pla_measureQuarters_m16
    rw [xo_nm_b, xo_nm_b]
    suffices hl : ∃ r, xo_lp (fun q : (Int32 × XS) => F_Pla_measureQuarters_b29 q.1 q.2) 1000000 ((0 : Int32), xs_L (xs_L st 0 k1) 1 ((xs_L st 0 k1).2 0)) = some r ∧ (r.1 = st.1 ∧ r.2 0 = lS (gq_Q A B C n n) ∧ r.2 1 = lS (gq_O A B n n)) by
      obtain ⟨r, h1, h2⟩ := hl
      rw [h1]; exact ⟨r, rfl, h2⟩
    refine lp_inv (fun (i : Nat) (x : Int32 × XS) => x.1 = zI (i : Int) ∧ x.2.1 = st.1 ∧ x.2.2 0 = lS (gq_Q A B C n i) ∧ x.2.2 1 = lS (gq_O A B n i)) (fun t : XS => t.1 = st.1 ∧ t.2 0 = lS (gq_Q A B C n n) ∧ t.2 1 = lS (gq_O A B n n)) n 1000000 _ (by omega) ?_ ?_ ?_
    · refine ⟨rfl, rfl, ?_, ?_⟩
      · show k1 = _
        rw [hk]
        apply lS_cong
        intro m _
        unfold gq_Q
        rw [an, Bool.or_false]
      · show k1 = _
        rw [hk]
        apply lS_cong
        intro m _
        unfold gq_O
        rw [an, Bool.or_false]
    · rintro i ⟨x, t⟩ hi ⟨e1, e2, e3, e4⟩
      dsimp only at e1 e2 e3 e4 ⊢
      subst e1
      have ht := cL_of h e2
      obtain ⟨g1, g2, g3⟩ := ht.2.2.1 i hi
      obtain ⟨b1, b2, b3⟩ := h.2.2.2 i hi
      unfold F_Pla_measureQuarters_b29
      have f1 := e_far ht b1 b2 (show ab 1 1 from Nat.le_refl 1)
      have f2 := e_far ht b1 b2 (show ab 1 (-1) from Nat.le_refl 1)
      rw [show zI 1 = (1 : Int32) from rfl] at f1
      rw [show zI (-1) = (-1 : Int32) from rfl] at f2
      rw [ht.1, if_neg (zI_ge1 (by omega) hi), xo_rd_z (by omega) (by decide), Option.bind_some, xo_rd_z (by omega) (by decide), Option.bind_some, g1, g2, f1, Option.bind_some, f2, Option.bind_some]
      have v1 : gc_far A B (A i) (B i) n < 64 := Nat.lt_of_lt_of_le (bm_lt _ _) (p2_64 h6)
      have v2 : gc_back A B (A i) (B i) n < 64 := Nat.lt_of_lt_of_le (bm_lt _ _) (p2_64 h6)
      have w1 : bm (fun s => decide (0 < 1 * gz_t A B (A i) (B i) s)) n = gc_far A B (A i) (B i) n := rfl
      have w2 : bm (fun s => decide (0 < -1 * gz_t A B (A i) (B i) s)) n = gc_back A B (A i) (B i) n := rfl
      rw [w1, w2, lS_one v1, lS_one v2, lS_or, xo_nm_b, xo_rd_z (by omega) (by decide), Option.bind_some, g3, e_cut ht b1 b2 b3, Option.bind_some, e_both _ (by omega), Option.bind_some, xo_nm_b, e_both _ (by omega), Option.bind_some, xo_nm_b, xo_nm_b]
      refine ⟨_, rfl, zI_suc i, e2, ?_, ?_⟩
      · show t.2 0 ||| _ = _
        rw [e3, lS_or]
        apply lS_cong
        intro m _
        unfold gq_Q
        rw [an, ← Bool.or_assoc]; rfl
      · show t.2 1 ||| _ = _
        rw [e4, lS_or]
        apply lS_cong
        intro m _
        unfold gq_O
        rw [an, ← Bool.or_assoc]; rfl
    · rintro ⟨x, t⟩ ⟨e1, e2, e3, e4⟩
      dsimp only at e1 e2 e3 e4 ⊢
      subst e1
      have ht := cL_of h e2
      unfold F_Pla_measureQuarters_b29
      rw [ht.1, if_pos (zI_rfl _)]
      exact ⟨t, rfl, e2, e3, e4⟩
  unfold F_Pla_measureQuarters
  rw [h.1, zI_0]
  by_cases hn : n = 0
  · rw [if_pos (by rw [hn]; rfl)]
    apply key
    rw [lS_1]
    apply lS_cong
    intro m _
    simp [hn]
  · rw [if_neg (by rw [zI_eq (zB_n (by omega)) (by decide)]; omega)]
    apply key
    rw [lS_0]
    apply lS_cong
    intro m _
    simp [hn]
end
section
/-! the class's sets are the regions, and the ends -/
theorem qx_add : ∀ k, k < 6 → ∀ x, x < 64 → x.testBit k = false → x + 2 ^ k = x ^^^ 2 ^ k := by decide +kernel
theorem qx_sub : ∀ k, k < 6 → ∀ x, x < 64 → x.testBit k = true → 2 ^ k ≤ x ∧ x - 2 ^ k = x ^^^ 2 ^ k := by decide +kernel
theorem gq_two_iff {c : Nat → Bool} {n s m : Nat} (hn : n ≤ 6) (hs : s < n) (hc : ∀ x, c x = true → x < 2 ^ n ∧ x.testBit s = false) : gq_two c s m = true ↔ m < 2 ^ n ∧ c (gz_off m s) = true := by
  have h64 := p2_64 hn
  have h2s : 2 ^ s < 2 ^ n := Nat.pow_lt_pow_right (by decide) hs
  unfold gq_two
  rw [Bool.or_eq_true, Bool.and_eq_true, decide_eq_true_eq]
  constructor
  · rintro (h | ⟨h1, h2⟩)
    · obtain ⟨a1, a2⟩ := hc m h
      refine ⟨a1, ?_⟩
      unfold gz_off
      rw [a2]; exact h
    · obtain ⟨a1, a2⟩ := hc _ h2
      have e := qx_add s (by omega) (m - 2 ^ s) (by omega) a2
      have e2 : m = (m - 2 ^ s) ^^^ 2 ^ s := by omega
      have hb : m.testBit s = true := by
        rw [e2, Nat.testBit_xor, Nat.testBit_two_pow, a2]; simp
      refine ⟨by rw [e2]; exact Nat.xor_lt_two_pow a1 h2s, ?_⟩
      unfold gz_off
      have e3 : m ^^^ 2 ^ s = m - 2 ^ s := by
        have : m < 2 ^ n := by rw [e2]; exact Nat.xor_lt_two_pow a1 h2s
        exact (qx_sub s (by omega) m (by omega) hb).2.symm
      rw [if_pos hb, e3]; exact h2
  · rintro ⟨hm, h⟩
    unfold gz_off at h
    by_cases hb : m.testBit s = true
    · rw [if_pos hb] at h
      obtain ⟨g1, g2⟩ := qx_sub s (by omega) m (by omega) hb
      rw [← g2] at h
      exact Or.inr ⟨g1, h⟩
    · rw [if_neg hb] at h
      exact Or.inl h
theorem gz_cut_self {a b c : Nat → Int} {n k m : Nat} (hk : k < n) (h : gz_cut a b c n (a k) (b k) (c k) m) : m.testBit k = false := by
  have ht := gz_t_self a b k
  cases hm : m.testBit k with
  | false => rfl
  | true =>
    rcases h with h | ⟨s, hs, _, h⟩
    · have := (h k hk).mp hm
      omega
    · have h1 := (h k hk).mp hm
      rw [gz_e_line ⟨rfl, rfl, rfl⟩, ht] at h1
      omega
theorem gq_Q_iff {A B C : Nat → Int} {n m : Nat} (hn : n ≤ 6) (hok : gz_ok A B n) : gq_Q A B C n n m = true ↔ m < 2 ^ n ∧ gz_reg A B C n (fun _ => True) m := by
  unfold gq_Q
  rw [Bool.or_eq_true, Bool.and_eq_true, decide_eq_true_eq, decide_eq_true_eq, an_iff]
  have hcs : ∀ s, s < n → ∀ x, gq_cs A B C n s x = true → x < 2 ^ n ∧ x.testBit s = false := by
    intro s hs x hx
    obtain ⟨h1, h2⟩ := gc_K_iff.mp hx
    exact ⟨h1, gz_cut_self hs h2⟩
  constructor
  · rintro (⟨h1, h2⟩ | ⟨s, hs, h⟩)
    · subst h1; subst h2
      exact ⟨by decide, 0, 0, 1, by decide, fun s hs => absurd hs (Nat.not_lt_zero s)⟩
    · obtain ⟨h1, h2⟩ := (gq_two_iff hn hs (hcs s hs)).mp h
      refine ⟨h1, gz_cut_reg hok hs (gc_K_iff.mp h2).2 (fun t _ hts => ?_)⟩
      rw [gz_off_bit]; simp [hts]
  · rintro ⟨hm, h⟩
    by_cases h0 : n = 0
    · subst h0
      exact Or.inl ⟨rfl, by simpa using hm⟩
    · obtain ⟨k, hk, hc⟩ := gz_reg_cut hok (by omega) h
      refine Or.inr ⟨k, hk, (gq_two_iff hn hk (hcs k hk)).mpr ⟨hm, gc_K_iff.mpr ⟨?_, hc⟩⟩⟩
      unfold gz_off
      split
      · exact Nat.xor_lt_two_pow hm (Nat.pow_lt_pow_right (by decide) hk)
      · exact hm
theorem gq_O_iff {A B : Nat → Int} {n m : Nat} (hn : n ≤ 6) : gq_O A B n n m = true ↔ m < 2 ^ n ∧ (n = 0 ∨ gz_end A B n m) := by
  unfold gq_O
  rw [Bool.or_eq_true, Bool.and_eq_true, decide_eq_true_eq, decide_eq_true_eq, an_iff]
  have hes : ∀ s, s < n → ∀ x, gq_es A B n s x = true → x < 2 ^ n ∧ x.testBit s = false := by
    intro s hs x hx
    have ht := gz_t_self A B s
    unfold gq_es at hx
    rw [Bool.or_eq_true, decide_eq_true_eq, decide_eq_true_eq] at hx
    rcases hx with hx | hx
    · rw [hx]
      refine ⟨bm_lt _ _, ?_⟩
      unfold gc_far
      rw [bm_tb, ht]; simp
    · rw [hx]
      refine ⟨bm_lt _ _, ?_⟩
      unfold gc_back
      rw [bm_tb, ht]; simp
  constructor
  · rintro (⟨h1, h2⟩ | ⟨s, hs, h⟩)
    · subst h1; subst h2
      exact ⟨by decide, Or.inl rfl⟩
    · obtain ⟨h1, h2⟩ := (gq_two_iff hn hs (hes s hs)).mp h
      refine ⟨h1, Or.inr ⟨s, hs, ?_⟩⟩
      unfold gq_es at h2
      rw [Bool.or_eq_true, decide_eq_true_eq, decide_eq_true_eq] at h2
      have hb : ∀ t, t ≠ s → (gz_off m s).testBit t = m.testBit t := fun t hts => by rw [gz_off_bit]; simp [hts]
      rcases h2 with h2 | h2
      · refine ⟨1, Or.inl rfl, fun t ht hts => ?_⟩
        rw [← hb t hts, h2]
        unfold gc_far
        rw [bm_tb]; simp [ht]
      · refine ⟨-1, Or.inr rfl, fun t ht hts => ?_⟩
        rw [← hb t hts, h2]
        unfold gc_back
        rw [bm_tb]; simp [ht]
  · rintro ⟨hm, h0 | ⟨s, hs, g, hg, h⟩⟩
    · subst h0
      exact Or.inl ⟨rfl, by simpa using hm⟩
    · refine Or.inr ⟨s, hs, (gq_two_iff hn hs (hes s hs)).mpr ⟨hm, ?_⟩⟩
      have hlt : gz_off m s < 2 ^ n := by
        unfold gz_off
        split
        · exact Nat.xor_lt_two_pow hm (Nat.pow_lt_pow_right (by decide) hs)
        · exact hm
      unfold gq_es
      rw [Bool.or_eq_true, decide_eq_true_eq, decide_eq_true_eq]
      have key : ∀ t, t < n → ((gz_off m s).testBit t = true ↔ 0 < g * gz_t A B (A s) (B s) t) := by
        intro t ht
        rw [gz_off_bit]
        by_cases hts : t = s
        · subst hts
          rw [gz_t_self]; simp
        · rw [← h t ht hts]; simp [hts]
      rcases hg with rfl | rfl
      · refine Or.inl ((bm_iff hlt).mpr fun t ht => ?_)
        rw [key t ht, decide_eq_true_eq]
      · refine Or.inr ((bm_iff hlt).mpr fun t ht => ?_)
        rw [key t ht, decide_eq_true_eq]
end
section
/-! THE POINTS, as the class keeps them: the first two lines of each, in order -/
def gp_f (A B C : Nat → Int) (i j : Nat) : Bool := !(an (fun k => decide (k ≠ i) && decide (gz_p A B C i j k = 0)) j)
theorem gp_f_iff {A B C : Nat → Int} {i j : Nat} : gp_f A B C i j = true ↔ gz_fst A B C i j := by
  unfold gp_f gz_fst
  rw [Bool.not_eq_true', Bool.eq_false_iff, Ne, an_iff]
  simp only [Bool.and_eq_true, decide_eq_true_eq]
  constructor
  · intro h k hk hki hz
    exact h ⟨k, hk, hki, hz⟩
  · rintro h ⟨k, hk, hki, hz⟩
    exact h k hk hki hz
def gp_rw (A B C : Nat → Int) (i : Nat) : Nat → List (Nat × Nat)
  | 0 => []
  | d + 1 => gp_rw A B C i d ++ (if gp_f A B C i (i + 1 + d) then [(i, i + 1 + d)] else [])
def gp_ls (A B C : Nat → Int) (n : Nat) : Nat → List (Nat × Nat)
  | 0 => []
  | i + 1 => gp_ls A B C n i ++ gp_rw A B C i (n - (i + 1))
theorem gp_rw_len (A B C : Nat → Int) (i : Nat) : ∀ d, (gp_rw A B C i d).length ≤ d
  | 0 => Nat.le_refl 0
  | d + 1 => by
    have h := gp_rw_len A B C i d
    rw [gp_rw, List.length_append]
    split <;> simp <;> omega
def gp_b : Nat → Nat
  | 0 => 0
  | i + 1 => gp_b i + (5 - i)
theorem gp_ls_len (A B C : Nat → Int) {n : Nat} (hn : n ≤ 6) : ∀ i, (gp_ls A B C n i).length ≤ gp_b i
  | 0 => Nat.le_refl 0
  | i + 1 => by
    have h := gp_ls_len A B C hn i
    have h2 := gp_rw_len A B C i (n - (i + 1))
    rw [gp_ls, List.length_append, gp_b]
    omega
theorem gp_b_le : ∀ i, i < 6 → gp_b i + (5 - i) ≤ 15 := by decide
/-- the plan's arrays hold the points of L -/
def gP (A B C : Nat → Int) (n : Nat) (t : XS) (L : List (Nat × Nat)) : Prop := t.1 22 3 = zI (L.length : Int) ∧ ∀ k i j, L[k]? = some (i, j) → t.1 23 k = zI (gz_X A B C (A i) (B i) (C i) j) ∧ t.1 24 k = zI (gz_Y A B C (A i) (B i) (C i) j) ∧ t.1 25 k = zI (gz_W A B (A i) (B i) j) ∧ t.1 26 k = zI ((bm (fun s => decide (gz_p A B C i j s = 0)) n : Nat) : Int) ∧ t.1 27 k = zI ((bm (fun s => decide (0 < gz_p A B C i j s)) n : Nat) : Int)
def gU (st t : XS) : Prop := t.2 = st.2 ∧ ∀ k, k < 22 ∨ 27 < k → t.1 k = st.1 k
theorem cL_u {st t : XS} {n : Nat} {A B C : Nat → Int} (h : cL st n A B C) (e : gU st t) : cL t n A B C := by
  unfold cL at *
  rw [e.2 1 (by omega), e.2 3 (by omega), e.2 4 (by omega), e.2 5 (by omega)]; exact h
theorem gp_first {A B C : Nat → Int} {n i j : Nat} (hij : i < j) (hj : j < n) (hn : n ≤ 6) : (zI ((bm (fun s => decide (gz_p A B C i j s = 0)) n : Nat) : Int) &&& (((1 : Int32) <<< (zI (j : Int) &&& 31)) - (1 : Int32)) = (1 : Int32) <<< (zI (i : Int) &&& 31)) ↔ gp_f A B C i j = true := by
  have hjp : (1 : Int32) <<< (zI (j : Int) &&& 31) - (1 : Int32) = zI ((2 ^ j - 1 : Nat) : Int) := by
    rw [zI_bit j (by omega), show (1 : Int32) = zI 1 from rfl, zI_sub]
    congr 1
    have : 0 < 2 ^ j := Nat.two_pow_pos j
    omega
  have h64 : ∀ k, k < n → 2 ^ k < 128 := fun k hk => by
    have : 2 ^ k < 2 ^ 7 := Nat.pow_lt_pow_right (by decide) (by omega)
    omega
  have hlt : bm (fun s => decide (gz_p A B C i j s = 0)) n &&& (2 ^ j - 1) < 128 := by
    have h1 : bm (fun s => decide (gz_p A B C i j s = 0)) n &&& (2 ^ j - 1) ≤ 2 ^ j - 1 := Nat.and_le_right
    have := h64 j hj
    omega
  rw [hjp, zI_and, zI_bit i (by omega), zI_eq (zB_n (by omega)) (zB_n (by have := h64 i (by omega); omega)), Int.ofNat_inj, gp_f_iff]
  constructor
  · intro h k hk hki hz
    have h1 := congrArg (fun m => m.testBit k) h
    simp only [Nat.testBit_and, bm_tb, Nat.testBit_two_pow_sub_one, Nat.testBit_two_pow] at h1
    have h2 : ¬ i = k := fun e => hki e.symm
    have h3 : k < n := by omega
    simp [hz, hk, h2, h3] at h1
  · intro h
    apply Nat.eq_of_testBit_eq
    intro k
    rw [Nat.testBit_and, bm_tb, Nat.testBit_two_pow_sub_one, Nat.testBit_two_pow]
    by_cases hki : i = k
    · subst hki
      have h3 : i < n := by omega
      simp [gz_p_i, hij, h3]
    · by_cases hk : k < j
      · have := h k hk (fun e => hki e.symm)
        simp [this, hki]
      · simp [hk, hki]
end
section
/-! a point is kept -/
theorem e_store {st : XS} {n : Nat} {A B C : Nat → Int} {L : List (Nat × Nat)} (h : cL st n A B C) (hP : gP A B C n st L) (hl : L.length < 15) {i j : Nat} (hi : i < n) (hj : j < n) : ∃ t, F_Pla_measurePoints_m95 (zI (i : Int)) (zI (j : Int)) (zI (gz_X A B C (A i) (B i) (C i) j)) (zI (gz_Y A B C (A i) (B i) (C i) j)) (zI (gz_W A B (A i) (B i) j)) (zI ((bm (fun s => decide (gz_p A B C i j s = 0)) n : Nat) : Int)) 1 st = some (.inl (zI ((j + 1 : Nat) : Int), t)) ∧ gU st t ∧ gP A B C n t (L ++ [(i, j)]) := by
  obtain ⟨hc, hk⟩ := hP
  obtain ⟨a1, a2, a3⟩ := h.2.2.2 i hi
  obtain ⟨bX, bY, bW⟩ := gX_ab h.2.2.2 a1 a2 a3 hj
  have e15 : (15 : Int32) = zI 15 := rfl
  have hb : zB (L.length : Int) := zB_n (by omega)
  generalize hs : bm (fun s => decide (0 < gz_p A B C i j s)) n = sd
  generalize hm : bm (fun s => decide (gz_p A B C i j s = 0)) n = mt
  generalize hX : gz_X A B C (A i) (B i) (C i) j = X at *
  generalize hY : gz_Y A B C (A i) (B i) (C i) j = Y at *
  generalize hW : gz_W A B (A i) (B i) j = W at *
  refine ⟨xs_I (xs_A (xs_A (xs_A (xs_A (xs_A st 23 (upd (st.1 23) L.length (zI X))) 24 (upd (st.1 24) L.length (zI Y))) 25 (upd (st.1 25) L.length (zI W))) 26 (upd (st.1 26) L.length (zI (mt : Int)))) 27 (upd (st.1 27) L.length (zI (sd : Int)))) 22 3 (zI ((L.length + 1 : Nat) : Int)), ?_, ⟨rfl, fun k hk2 => ?_⟩, (by simp [xs_I, xs_A, upd]), fun k i2 j2 hk2 => ?_⟩
  · unfold F_Pla_measurePoints_m95
    rw [if_neg (by decide), hc, e15, if_neg (by rw [zI_le (by decide) hb]; omega)]
    have hsd : ∀ t : XS, cL t n A B C → F_Pla_sidesOfPoint (zI X) (zI Y) (zI W) t = some (zI (sd : Int)) := fun t ht => by
      rw [e_sides ht bX bY bW, ← hs]
      congr 4
      funext s
      rw [← hX, ← hY, ← hW]; rfl
    have hsd2 : ∀ f : Nat → Nat → Int32, (∀ k, k < 22 → f k = st.1 k) → F_Pla_sidesOfPoint (zI X) (zI Y) (zI W) (f, st.2) = some (zI (sd : Int)) := fun f hf => by
      apply hsd
      unfold cL at *
      dsimp only
      rw [hf 1 (by omega), hf 3 (by omega), hf 4 (by omega), hf 5 (by omega)]
      exact h
    simp only [xo_nm_b, xo_ck_z hl (show 15 < 2147483648 by decide), zI_cl (show L.length < 2147483648 by omega), Option.bind_some, xs_A, xs_I, hc, reduceIte, Nat.reduceEqDiff]
    rw [hsd2 _ (fun k hk => by
      have h23 : ¬ k = 23 := by omega
      have h24 : ¬ k = 24 := by omega
      have h25 : ¬ k = 25 := by omega
      have h26 : ¬ k = 26 := by omega
      simp [h23, h24, h25, h26])]
    simp only [Option.bind_some, zI_suc]
  · have h23 : ¬ k = 23 := by omega
    have h24 : ¬ k = 24 := by omega
    have h25 : ¬ k = 25 := by omega
    have h26 : ¬ k = 26 := by omega
    have h27 : ¬ k = 27 := by omega
    have h22 : ¬ k = 22 := by omega
    simp [xs_I, xs_A, h22, h23, h24, h25, h26, h27]
  · rw [List.getElem?_append] at hk2
    by_cases hkl : k < L.length
    · rw [if_pos hkl] at hk2
      have hne : ¬ k = L.length := by omega
      simpa [xs_I, xs_A, upd, hne] using hk k i2 j2 hk2
    · rw [if_neg hkl] at hk2
      have hk0 : k = L.length := by
        by_cases e : k - L.length = 0
        · omega
        · obtain ⟨d, hd⟩ : ∃ d, k - L.length = d + 1 := ⟨k - L.length - 1, by omega⟩
          rw [hd] at hk2; simp at hk2
      subst hk0
      rw [Nat.sub_self] at hk2
      simp at hk2
      obtain ⟨e1, e2⟩ := hk2
      subst e1; subst e2
      simp [xs_I, xs_A, upd, hX, hY, hW, hm, hs]
end
section
/-! all points are kept -/
theorem gU_trans {a b c : XS} (h : gU a b) (g : gU b c) : gU a c := ⟨g.1.trans h.1, fun k hk => (g.2 k hk).trans (h.2 k hk)⟩
theorem e_pstep {st : XS} {n : Nat} {A B C : Nat → Int} {L : List (Nat × Nat)} (h : cL st n A B C) (hP : gP A B C n st L) (hl : L.length < 15) {i j : Nat} (hij : i < j) (hj : j < n) : ∃ t, F_Pla_measurePoints_b22 (zI (i : Int)) (zI (j : Int)) st = some (.inl (zI ((j + 1 : Nat) : Int), t)) ∧ gU st t ∧ gP A B C n t (L ++ (if gp_f A B C i j then [(i, j)] else [])) := by
  have h6 := h.2.1
  have hi : i < n := by omega
  obtain ⟨a1, a2, a3⟩ := h.2.2.2 i hi
  obtain ⟨bX, bY, bW⟩ := gX_ab h.2.2.2 a1 a2 a3 hj
  unfold F_Pla_measurePoints_b22
  have ht := e_through h bX bY bW
  have e : bm (fun s => decide (gz_h A B C s (gz_X A B C (A i) (B i) (C i) j) (gz_Y A B C (A i) (B i) (C i) j) (gz_W A B (A i) (B i) j) = 0)) n = bm (fun s => decide (gz_p A B C i j s = 0)) n := rfl
  rw [e] at ht
  rw [h.1, if_neg (zI_ge1 (by omega) hj), e_cX h hi hj, Option.bind_some, e_cY h hi hj, Option.bind_some, e_cW h hi hj, Option.bind_some, ht, Option.bind_some]
  by_cases hf : gp_f A B C i j = true
  · rw [if_pos ((gp_first hij hj h6).mpr hf), if_pos hf]
    exact e_store h hP hl hi hj
  · rw [if_neg (fun z => hf ((gp_first hij hj h6).mp z)), if_neg hf, List.append_nil]
    unfold F_Pla_measurePoints_m95
    rw [if_pos rfl, xo_nm_b, zI_suc]
    exact ⟨st, rfl, ⟨rfl, fun _ _ => rfl⟩, hP⟩
theorem e_prow {st : XS} {n : Nat} {A B C : Nat → Int} (h : cL st n A B C) {i : Nat} (hi : i < n) (hP : gP A B C n st (gp_ls A B C n i)) : ∃ t, xo_lp (fun q : (Int32 × XS) => F_Pla_measurePoints_b22 (zI (i : Int)) q.1 q.2) 1000000 (zI ((i + 1 : Nat) : Int), st) = some t ∧ (gU st t ∧ gP A B C n t (gp_ls A B C n (i + 1))) := by
  have h6 := h.2.1
  refine lp_inv (fun (d : Nat) (x : Int32 × XS) => x.1 = zI ((i + 1 + d : Nat) : Int) ∧ gU st x.2 ∧ gP A B C n x.2 (gp_ls A B C n i ++ gp_rw A B C i d)) (fun t : XS => gU st t ∧ gP A B C n t (gp_ls A B C n (i + 1))) (n - (i + 1)) 1000000 _ (by omega) ?_ ?_ ?_
  · refine ⟨rfl, ⟨rfl, fun _ _ => rfl⟩, ?_⟩
    rw [gp_rw, List.append_nil]; exact hP
  · rintro d ⟨x, t⟩ hd ⟨e1, e2, e3⟩
    dsimp only at e1 e2 e3 ⊢
    subst e1
    have hlen : (gp_ls A B C n i ++ gp_rw A B C i d).length < 15 := by
      have l1 := gp_ls_len A B C h6 i
      have l2 := gp_rw_len A B C i d
      have l3 := gp_b_le i (by omega)
      rw [List.length_append]; omega
    obtain ⟨t2, g1, g2, g3⟩ := e_pstep (cL_u h e2) e3 hlen (i := i) (j := i + 1 + d) (by omega) (by omega)
    refine ⟨_, g1, rfl, gU_trans e2 g2, ?_⟩
    rw [gp_rw, ← List.append_assoc]
    exact g3
  · rintro ⟨x, t⟩ ⟨e1, e2, e3⟩
    dsimp only at e1 e2 e3 ⊢
    subst e1
    have e : i + 1 + (n - (i + 1)) = n := by omega
    unfold F_Pla_measurePoints_b22
    rw [(cL_u h e2).1, e, if_pos (zI_rfl _)]
    exact ⟨t, rfl, e2, e3⟩
theorem e_points {st : XS} {n : Nat} {A B C : Nat → Int} (h : cL st n A B C) : ∃ t, F_Pla_measurePoints st = some t ∧ gU st t ∧ gP A B C n t (gp_ls A B C n n) := by
  have h6 := h.2.1
  unfold F_Pla_measurePoints
  rw [xo_nm_b]
  suffices hl : ∃ r, xo_lp (fun q : (Int32 × XS) => F_Pla_measurePoints_b7 q.1 q.2) 1000000 ((0 : Int32), xs_I st 22 3 (0 : Int32)) = some r ∧ (gU st r ∧ gP A B C n r (gp_ls A B C n n)) by
    obtain ⟨r, h1, h2⟩ := hl
    rw [h1]; exact ⟨r, rfl, h2⟩
  refine lp_inv (fun (i : Nat) (x : Int32 × XS) => x.1 = zI (i : Int) ∧ gU st x.2 ∧ gP A B C n x.2 (gp_ls A B C n i)) (fun r : XS => gU st r ∧ gP A B C n r (gp_ls A B C n n)) n 1000000 _ (by omega) ?_ ?_ ?_
  · refine ⟨rfl, ⟨rfl, fun k hk => ?_⟩, ?_, fun k i j hk => ?_⟩
    · have : ¬ k = 22 := by omega
      simp [xs_I, this]
    · simp [xs_I, upd, gp_ls]; rfl
    · simp [gp_ls] at hk
  · rintro i ⟨x, t⟩ hi ⟨e1, e2, e3⟩
    dsimp only at e1 e2 e3 ⊢
    subst e1
    have ht := cL_u h e2
    obtain ⟨t2, g1, g2, g3⟩ := e_prow ht hi e3
    unfold F_Pla_measurePoints_b7
    rw [ht.1, if_neg (zI_ge1 (by omega) hi), zI_suc, xo_nm_b, g1, Option.bind_some, xo_nm_b]
    exact ⟨_, rfl, rfl, gU_trans e2 g2, g3⟩
  · rintro ⟨x, t⟩ ⟨e1, e2, e3⟩
    dsimp only at e1 e2 e3 ⊢
    subst e1
    unfold F_Pla_measurePoints_b7
    rw [(cL_u h e2).1, if_pos (zI_rfl _)]
    exact ⟨t, rfl, e2, e3⟩
end
section
/-! the plan is measured -/
def gPl (A B C : Nat → Int) (n : Nat) (t : XS) : Prop := gP A B C n t (gp_ls A B C n n) ∧ t.2 0 = lS (gq_Q A B C n n) ∧ t.2 1 = lS (gq_O A B n n)
theorem e_measure {st : XS} {n : Nat} {A B C : Nat → Int} (h : cL st n A B C) : ∃ t, F_Pla_measure st = some t ∧ (∀ k, k < 22 ∨ 27 < k → t.1 k = st.1 k) ∧ gPl A B C n t := by
  obtain ⟨t1, h1, h2, h3⟩ := e_points h
  obtain ⟨t2, g1, g2, g3, g4⟩ := e_quart (cL_u h h2)
  unfold F_Pla_measure
  rw [h1, Option.bind_some, g1, Option.bind_some]
  refine ⟨t2, rfl, fun k hk => by rw [g2]; exact h2.2 k hk, ?_, g3, g4⟩
  unfold gP at *
  rw [g2]; exact h3
theorem gP_len {A B C : Nat → Int} {n : Nat} {t : XS} {L : List (Nat × Nat)} (h : gP A B C n t L) : t.1 22 3 = zI (L.length : Int) := h.1
theorem gp_ls_15 (A B C : Nat → Int) {n : Nat} (hn : n ≤ 6) : (gp_ls A B C n n).length ≤ 15 := by
  have h := gp_ls_len A B C hn n
  have h2 : ∀ i, i < 7 → gp_b i ≤ 15 := by decide
  have := h2 n (by omega)
  omega
theorem gp_rw_mem {A B C : Nat → Int} {i : Nat} {x : Nat × Nat} : ∀ {d : Nat}, x ∈ gp_rw A B C i d ↔ x.1 = i ∧ i < x.2 ∧ x.2 < i + 1 + d ∧ gp_f A B C i x.2 = true
  | 0 => by simp [gp_rw]; omega
  | d + 1 => by
    rw [gp_rw, List.mem_append, gp_rw_mem]
    constructor
    · rintro (⟨h1, h2, h3, h4⟩ | h)
      · exact ⟨h1, h2, by omega, h4⟩
      · split at h
        · rename_i hf
          simp at h
          subst h
          exact ⟨rfl, by show i < i + 1 + d; omega, by show i + 1 + d < _; omega, hf⟩
        · simp at h
    · rintro ⟨h1, h2, h3, h4⟩
      by_cases e : x.2 = i + 1 + d
      · right
        rw [← e, if_pos h4]
        simp [← h1]
      · exact Or.inl ⟨h1, h2, by omega, h4⟩
theorem gp_ls_mem {A B C : Nat → Int} {n : Nat} {x : Nat × Nat} : ∀ {i : Nat}, i ≤ n → (x ∈ gp_ls A B C n i ↔ x.1 < i ∧ x.1 < x.2 ∧ x.2 < n ∧ gp_f A B C x.1 x.2 = true)
  | 0, _ => by simp [gp_ls]
  | i + 1, hi => by
    rw [gp_ls, List.mem_append, gp_ls_mem (by omega), gp_rw_mem]
    constructor
    · rintro (⟨h1, h2, h3, h4⟩ | ⟨h1, h2, h3, h4⟩)
      · exact ⟨by omega, h2, h3, h4⟩
      · exact ⟨by omega, by omega, by omega, by rw [h1]; exact h4⟩
    · rintro ⟨h1, h2, h3, h4⟩
      by_cases e : x.1 = i
      · exact Or.inr ⟨e, by omega, by omega, by rw [← e]; exact h4⟩
      · exact Or.inl ⟨by omega, h2, h3, h4⟩
end
section
/-! COUNTING LOOPS -/
theorem lp_cnt {τ : Type} {f : Int32 × Int32 → Option ((Int32 × Int32) ⊕ Int32)} {g : Int32 → Option τ} (P : Nat → Bool) (N : Nat) (hN : N < 1000000) (hs : ∀ k c : Nat, k < N → f (zI (c : Int), zI (k : Int)) = some (.inl (zI ((c + (if P k then 1 else 0) : Nat) : Int), zI ((k + 1 : Nat) : Int)))) (he : ∀ c : Nat, f (zI (c : Int), zI (N : Int)) = some (.inr (zI (c : Int)))) : (xo_lp f 1000000 ((0 : Int32), (0 : Int32))).bind g = g (zI ((fb_ct P N : Nat) : Int)) :=
  lp_go (fun k => (zI ((fb_ct P k : Nat) : Int), zI (k : Int))) N _ rfl hN (fun k hk => hs k (fb_ct P k) hk) (he _)
/-- the two sides of a sum over pairs -/
theorem fb_sm_add (f g : Nat → Nat) : ∀ n, fb_sm (fun k => f k + g k) n = fb_sm f n + fb_sm g n
  | 0 => rfl
  | n + 1 => by rw [fb_sm_succ, fb_sm_succ, fb_sm_succ, fb_sm_add f g n]; omega
theorem fb_sm_z : ∀ n, fb_sm (fun _ => 0) n = 0
  | 0 => rfl
  | n + 1 => by rw [fb_sm_succ, fb_sm_z n]
theorem fb_sm_swap (f : Nat → Nat → Nat) (m : Nat) : ∀ n, fb_sm (fun i => fb_sm (f i) m) n = fb_sm (fun j => fb_sm (fun i => f i j) n) m
  | 0 => (fb_sm_z m).symm
  | n + 1 => by
    rw [fb_sm_succ, fb_sm_swap f m n, ← fb_sm_add]
    rfl
theorem fb_ct_sm (P : Nat → Bool) : ∀ n, fb_ct P n = fb_sm (fun k => if P k then 1 else 0) n
  | 0 => rfl
  | n + 1 => by rw [fb_ct_succ, fb_sm_succ, fb_ct_sm P n]
/-- a count over the places of a list is a count over the list -/
def ls_sm (w : Nat × Nat → Nat) : List (Nat × Nat) → Nat
  | [] => 0
  | x :: l => w x + ls_sm w l
theorem ls_sm_app (w : Nat × Nat → Nat) : ∀ l m, ls_sm w (l ++ m) = ls_sm w l + ls_sm w m
  | [], m => by simp [ls_sm]
  | x :: l, m => by
    show w x + ls_sm w (l ++ m) = w x + ls_sm w l + ls_sm w m
    rw [ls_sm_app w l m]; omega
theorem ls_sm_row (A B C : Nat → Int) (w : Nat × Nat → Nat) (i : Nat) : ∀ d, ls_sm w (gp_rw A B C i d) = fb_sm (fun e => if gp_f A B C i (i + 1 + e) then w (i, i + 1 + e) else 0) d
  | 0 => rfl
  | d + 1 => by
    rw [gp_rw, ls_sm_app, fb_sm_succ, ls_sm_row A B C w i d]
    split <;> simp [ls_sm]
theorem fb_sm_split (f : Nat → Nat) (m : Nat) : ∀ n, fb_sm f (m + n) = fb_sm f m + fb_sm (fun k => f (m + k)) n
  | 0 => rfl
  | n + 1 => by
    show fb_sm f (m + n + 1) = _
    rw [fb_sm_succ, fb_sm_succ, fb_sm_split f m n, Nat.add_assoc]
/-- the sum over all points: over all pairs of lines -/
def pr_sm (A B C : Nat → Int) (w : Nat × Nat → Nat) (n : Nat) : Nat := fb_sm (fun i => fb_sm (fun j => if i < j ∧ gp_f A B C i j = true then w (i, j) else 0) n) n
theorem ls_sm_pr (A B C : Nat → Int) (w : Nat × Nat → Nat) (n : Nat) : ls_sm w (gp_ls A B C n n) = pr_sm A B C w n := by
  have key : ∀ i, i ≤ n → ls_sm w (gp_ls A B C n i) = fb_sm (fun i => fb_sm (fun j => if i < j ∧ gp_f A B C i j = true then w (i, j) else 0) n) i := by
    intro i
    induction i with
    | zero => intro _; rfl
    | succ i ih =>
      intro hi
      rw [gp_ls, ls_sm_app, fb_sm_succ, ih (by omega), ls_sm_row]
      congr 1
      have e : n = (i + 1) + (n - (i + 1)) := by omega
      generalize n - (i + 1) = d at e ⊢
      rw [e, fb_sm_split]
      have hz : fb_sm (fun j => if i < j ∧ gp_f A B C i j = true then w (i, j) else 0) (i + 1) = 0 := by
        rw [fb_sm_cong (g := fun _ => 0) (fun k hk => if_neg (fun z => by have := z.1; omega)), fb_sm_z]
      rw [hz, Nat.zero_add]
      apply fb_sm_cong
      intro k _
      have h1 : i < i + 1 + k := by omega
      simp [h1]
  exact key n (Nat.le_refl n)
end
section
/-! counts over the kept points -/
theorem ls_ct (P : Nat × Nat → Bool) : ∀ L : List (Nat × Nat), fb_ct (fun k => P (L.getD k (0, 0))) L.length = ls_sm (fun x => if P x then 1 else 0) L
  | [] => rfl
  | x :: l => by
    have h := ls_ct P l
    have e : (x :: l).length = 1 + l.length := by simp; omega
    rw [e, fb_ct_split, ls_sm, ← h]
    congr 1
    · simp [fb_ct]
    · apply fb_ct_cong
      intro k _
      rw [Nat.add_comm 1 k]
      simp
theorem gP_at {A B C : Nat → Int} {n : Nat} {t : XS} {L : List (Nat × Nat)} (h : gP A B C n t L) {k : Nat} (hk : k < L.length) : t.1 23 k = zI (gz_X A B C (A (L.getD k (0, 0)).1) (B (L.getD k (0, 0)).1) (C (L.getD k (0, 0)).1) (L.getD k (0, 0)).2) ∧ t.1 24 k = zI (gz_Y A B C (A (L.getD k (0, 0)).1) (B (L.getD k (0, 0)).1) (C (L.getD k (0, 0)).1) (L.getD k (0, 0)).2) ∧ t.1 25 k = zI (gz_W A B (A (L.getD k (0, 0)).1) (B (L.getD k (0, 0)).1) (L.getD k (0, 0)).2) ∧ t.1 26 k = zI ((bm (fun s => decide (gz_p A B C (L.getD k (0, 0)).1 (L.getD k (0, 0)).2 s = 0)) n : Nat) : Int) ∧ t.1 27 k = zI ((bm (fun s => decide (0 < gz_p A B C (L.getD k (0, 0)).1 (L.getD k (0, 0)).2 s)) n : Nat) : Int) := by
  apply h.2 k
  rw [List.getElem?_eq_getElem hk]
  simp [List.getD, List.getElem?_eq_getElem hk]
end
section
/-! corners, as the class counts them -/
def gp_g (A B C : Nat → Int) (n q : Nat) (x : Nat × Nat) : Bool := decide (q &&& ((bm (fun s => decide (gz_p A B C x.1 x.2 s = 0)) n) ^^^ 4294967295) = bm (fun s => decide (0 < gz_p A B C x.1 x.2 s)) n)
theorem gp_g_iff {A B C : Nat → Int} {n q : Nat} (hn : n ≤ 7) (hq : q < 2 ^ n) {x : Nat × Nat} : gp_g A B C n q x = true ↔ gz_agr A B C n x.1 x.2 q := by
  unfold gp_g gz_agr
  rw [decide_eq_true_eq]
  have hM : ∀ t, t < 32 → (4294967295 : Nat).testBit t = true := by decide
  constructor
  · intro h t ht hne
    have h1 := congrArg (fun m => m.testBit t) h
    simp only [Nat.testBit_and, Nat.testBit_xor, bm_tb, hM t (by omega)] at h1
    simp [ht, hne] at h1
    rw [h1, decide_eq_true_eq]
  · intro h
    apply Nat.eq_of_testBit_eq
    intro t
    rw [Nat.testBit_and, Nat.testBit_xor, bm_tb, bm_tb]
    by_cases ht : t < n
    · rw [hM t (by omega)]
      by_cases hz : gz_p A B C x.1 x.2 t = 0
      · simp [ht, hz]
      · have h1 := h t ht hz
        by_cases hp : 0 < gz_p A B C x.1 x.2 t
        · simp [ht, hz, hp, h1.mpr hp]
        · have : q.testBit t = false := by
            cases hb : q.testBit t with
            | false => rfl
            | true => exact absurd (h1.mp hb) hp
          simp [ht, hz, hp, this]
    · have h1 : q.testBit t = false := Nat.testBit_lt_two_pow (Nat.lt_of_lt_of_le hq (Nat.pow_le_pow_right (by decide) (by omega)))
      simp [ht, h1]
theorem e_corners {st : XS} {n : Nat} {A B C : Nat → Int} (h6 : n ≤ 6) (hP : gP A B C n st (gp_ls A B C n n)) {q : Nat} (hq : q < 64) : F_Pla_cornersOf (zI (q : Int)) st = some (zI ((ls_sm (fun x => if gp_g A B C n q x then 1 else 0) (gp_ls A B C n n) : Nat) : Int)) := by
  have h15 := gp_ls_15 A B C h6
  generalize hL : gp_ls A B C n n = L at *
  unfold F_Pla_cornersOf
  rw [lp_cnt (fun k => gp_g A B C n q (L.getD k (0, 0))) L.length (by omega) (fun k c hk => ?_) (fun c => ?_), ls_ct]
  · unfold F_Pla_cornersOf_b4
    dsimp only
    obtain ⟨-, -, -, g4, g5⟩ := gP_at hP hk
    rw [hP.1, if_neg (zI_ge1 (by omega) hk), xo_rd_z (by omega) (by decide), Option.bind_some, xo_rd_z (by omega) (by decide), Option.bind_some, g4, g5]
    generalize L.getD k (0, 0) = x
    have e1 : (-1 : Int32) = zI ((4294967295 : Nat) : Int) := by decide
    rw [e1, zI_xor, zI_and, xo_nm_b, xo_nm_b, xo_nm_b, zI_suc, zI_suc]
    have hb : ∀ P : Nat → Bool, bm P n < 64 := fun P => Nat.lt_of_lt_of_le (bm_lt P n) (p2_64 h6)
    have hand : q &&& (bm (fun s => decide (gz_p A B C x.1 x.2 s = 0)) n ^^^ 4294967295) ≤ q := Nat.and_le_left
    have hc : (zI ((q &&& (bm (fun s => decide (gz_p A B C x.1 x.2 s = 0)) n ^^^ 4294967295) : Nat) : Int) = zI ((bm (fun s => decide (0 < gz_p A B C x.1 x.2 s)) n : Nat) : Int)) ↔ gp_g A B C n q x = true := by
      have := hb (fun s => decide (0 < gz_p A B C x.1 x.2 s))
      rw [zI_eq (zB_n (by omega)) (zB_n (by omega)), Int.ofNat_inj]
      unfold gp_g
      rw [decide_eq_true_eq]
    by_cases hg : gp_g A B C n q x = true
    · rw [if_pos (hc.mpr hg), if_pos hg]
    · rw [if_neg (fun z => hg (hc.mp z)), if_neg hg]; rfl
  · unfold F_Pla_cornersOf_b4
    dsimp only
    rw [hP.1, if_pos (zI_rfl _)]
end
section
/-! is it a quarter; sides of quarters -/
theorem xo_cb_b (c : Prop) [Decidable c] : xo_cb (zI (if c then 1 else 0)) = some (zI (if c then 1 else 0)) := by
  by_cases h : c
  · rw [if_pos h]; rfl
  · rw [if_neg h]; rfl
theorem e_hasQ {st : XS} {Q : Nat → Bool} (h : st.2 0 = lS Q) {x : Int} (hx : zB x) : F_Pla_hasQuarter (zI x) st = some (zI (if 0 ≤ x ∧ x < 64 ∧ Q x.toNat = true then 1 else 0)) := by
  unfold F_Pla_hasQuarter
  rw [h, e_has Q hx, Option.bind_some, xo_cb_b, Option.bind_some]
theorem e_hasQn {st : XS} {Q : Nat → Bool} (h : st.2 0 = lS Q) {m : Nat} (hm : m < 64) : F_Pla_hasQuarter (zI (m : Int)) st = some (zI (if Q m = true then 1 else 0)) := by
  rw [e_hasQ h (zB_n (by omega))]
  congr 2
  have e : (↑m : Int).toNat = m := rfl
  rw [e]
  by_cases hQ : Q m = true
  · rw [if_pos ⟨by omega, by omega, hQ⟩, if_pos hQ]
  · rw [if_neg (fun z => hQ z.2.2), if_neg hQ]
theorem e_sidesOf {st : XS} {n : Nat} {A B C : Nat → Int} {Q : Nat → Bool} (h : cL st n A B C) (hQ : st.2 0 = lS Q) {q : Nat} (hq : q < 64) : F_Pla_sidesOf (zI (q : Int)) st = some (zI ((fb_ct (fun s => Q (q ^^^ 2 ^ s)) n : Nat) : Int)) := by
  have h6 := h.2.1
  unfold F_Pla_sidesOf
  rw [lp_cnt (fun s => Q (q ^^^ 2 ^ s)) n (by omega) (fun k c hk => ?_) (fun c => ?_)]
  · unfold F_Pla_sidesOf_b4
    dsimp only
    have h2k : 2 ^ k < 2 ^ 6 := Nat.pow_lt_pow_right (by decide) (by omega)
    have hx : q ^^^ 2 ^ k < 2 ^ 6 := Nat.xor_lt_two_pow (by omega) h2k
    rw [h.1, if_neg (zI_ge1 (by omega) hk), zI_bit k (by omega), zI_xor, e_hasQn hQ (show q ^^^ 2 ^ k < 64 by omega), Option.bind_some, xo_nm_b, xo_nm_b, xo_nm_b, zI_suc, zI_suc]
    by_cases hg : Q (q ^^^ 2 ^ k) = true
    · rw [if_pos hg, if_neg (by decide), if_pos hg]
    · rw [if_neg hg, if_pos (show zI 0 = 0 from rfl), if_neg hg]; rfl
  · unfold F_Pla_sidesOf_b4
    dsimp only
    rw [h.1, if_pos (zI_rfl _)]
end
section
/-! squares -/
theorem ct_bm (P : Nat → Bool) {n k : Nat} (h : n ≤ k) : fb_ct (bm P n).testBit k = fb_ct P n := by
  obtain ⟨d, rfl⟩ : ∃ d, k = n + d := ⟨k - n, by omega⟩
  have h1 : fb_ct (bm P n).testBit n = fb_ct P n := fb_ct_cong (fun s hs => by rw [bm_tb]; simp [hs])
  have h2 : fb_ct (fun s => (bm P n).testBit (n + s)) d = 0 := by
    rw [fb_ct_zero]
    intro s _
    have h3 : ¬ n + s < n := by omega
    rw [bm_tb, decide_eq_false h3, Bool.false_and]
  rw [fb_ct_split, h1, h2, Nat.add_zero]
def gp_th (A B C : Nat → Int) (n : Nat) (x : Nat × Nat) : Nat := fb_ct (fun s => decide (gz_p A B C x.1 x.2 s = 0)) n
theorem e_isSq {st : XS} {n : Nat} {A B C : Nat → Int} {L : List (Nat × Nat)} (h6 : n ≤ 6) (hP : gP A B C n st L) (hl : L.length ≤ 15) {k : Nat} (hk : k < L.length) : F_Pla_isSquare (zI (k : Int)) st = some (zI (if 3 ≤ gp_th A B C n (L.getD k (0, 0)) then 1 else 0)) := by
  obtain ⟨-, -, -, g4, -⟩ := gP_at hP hk
  unfold F_Pla_isSquare
  rw [xo_rd_z (by omega) (by decide), Option.bind_some, g4]
  generalize L.getD k (0, 0) = x
  have hb : bm (fun s => decide (gz_p A B C x.1 x.2 s = 0)) n < 64 := Nat.lt_of_lt_of_le (bm_lt _ n) (p2_64 h6)
  rw [e_icount _ (by omega), Option.bind_some, ct_bm _ (by omega)]
  have h3 : (3 : Int32) = zI 3 := rfl
  have hle := fb_ct_le (fun s => decide (gz_p A B C x.1 x.2 s = 0)) n
  unfold gp_th
  rw [h3]
  by_cases hc : 3 ≤ fb_ct (fun s => decide (gz_p A B C x.1 x.2 s = 0)) n
  · rw [if_neg (by rw [zI_lt (zB_n (by omega)) (by decide)]; omega), if_pos hc]; rfl
  · rw [if_pos (by rw [zI_lt (zB_n (by omega)) (by decide)]; omega), if_neg hc]; rfl
end
section
/-! the class's questions about its points -/
theorem ls_sm_at (w : Nat × Nat → Nat) : ∀ L : List (Nat × Nat), fb_sm (fun k => w (L.getD k (0, 0))) L.length = ls_sm w L
  | [] => rfl
  | x :: l => by
    have h := ls_sm_at w l
    have e : (x :: l).length = 1 + l.length := by simp; omega
    rw [e, fb_sm_split, ls_sm, ← h]
    congr 1
    · simp [fb_sm]
    · apply fb_sm_cong
      intro k _
      rw [Nat.add_comm 1 k]
      simp
def fb_mx (f : Nat → Nat) : Nat → Nat
  | 0 => 0
  | n + 1 => if fb_mx f n < f n then f n else fb_mx f n
theorem fb_mx_suc (f : Nat → Nat) (n : Nat) : fb_mx f (n + 1) = if fb_mx f n < f n then f n else fb_mx f n := rfl
theorem fb_mx_le {f : Nat → Nat} {m : Nat} : ∀ {n : Nat}, fb_mx f n ≤ m ↔ ∀ k, k < n → f k ≤ m
  | 0 => ⟨fun _ k hk => absurd hk (Nat.not_lt_zero k), fun _ => Nat.zero_le m⟩
  | n + 1 => by
    rw [fb_mx_suc]
    have h := fb_mx_le (f := f) (m := m) (n := n)
    constructor
    · intro hm k hk
      by_cases e : k = n
      · subst e
        split at hm <;> omega
      · refine h.mp ?_ k (by omega)
        split at hm <;> omega
    · intro hm
      have h1 := h.mpr (fun k hk => hm k (by omega))
      have h2 := hm n (by omega)
      split <;> omega
theorem fb_mx_lub {x y : Nat} (h : ∀ m, x ≤ m ↔ y ≤ m) : x = y := Nat.le_antisymm ((h y).mpr (Nat.le_refl y)) ((h x).mp (Nat.le_refl x))
theorem zI_ifs (c : Prop) [Decidable c] (a : Nat) : zI ((if c then a + 1 else a : Nat) : Int) = if c then zI (a : Int) + 1 else zI (a : Int) := by
  by_cases h : c
  · rw [if_pos h, if_pos h, zI_suc]
  · rw [if_neg h, if_neg h]
theorem zI_addn (a b : Nat) : zI (a : Int) + zI (b : Int) = zI ((a + b : Nat) : Int) := by rw [zI_add]; rfl
theorem gp_th_le (A B C : Nat → Int) (n : Nat) (x : Nat × Nat) : gp_th A B C n x ≤ n := fb_ct_le _ n
theorem e_squares {st : XS} {n : Nat} {A B C : Nat → Int} {L : List (Nat × Nat)} (h6 : n ≤ 6) (hP : gP A B C n st L) (hl : L.length ≤ 15) : F_Pla_squares st = some (zI ((ls_sm (fun x => if 3 ≤ gp_th A B C n x then 1 else 0) L : Nat) : Int)) := by
  unfold F_Pla_squares
  have e0 : ls_sm (fun x => if 3 ≤ gp_th A B C n x then 1 else 0) L = fb_ct (fun k => decide (3 ≤ gp_th A B C n (L.getD k (0, 0)))) L.length := by
    rw [ls_ct (fun x => decide (3 ≤ gp_th A B C n x))]
    congr 1
    funext x
    simp
  rw [e0, lp_cnt (fun k => decide (3 ≤ gp_th A B C n (L.getD k (0, 0)))) L.length (by omega) (fun k c hk => ?_) (fun c => ?_)]
  · unfold F_Pla_squares_b4
    dsimp only
    rw [hP.1, if_neg (zI_ge1 (by omega) hk), e_isSq h6 hP hl hk, Option.bind_some, xo_nm_b, xo_nm_b, xo_nm_b, zI_suc, zI_suc]
    by_cases hg : 3 ≤ gp_th A B C n (L.getD k (0, 0))
    · rw [if_pos hg, if_neg (by decide), if_pos (decide_eq_true hg)]
    · rw [if_neg hg, if_pos (show zI 0 = 0 from rfl), if_neg (by simpa using hg)]; rfl
  · unfold F_Pla_squares_b4
    dsimp only
    rw [hP.1, if_pos (zI_rfl _)]
theorem e_mostMeet {st : XS} {n : Nat} {A B C : Nat → Int} {L : List (Nat × Nat)} (h6 : n ≤ 6) (hP : gP A B C n st L) (hl : L.length ≤ 15) : F_Pla_mostMeeting st = some (zI ((fb_mx (fun k => gp_th A B C n (L.getD k (0, 0))) L.length : Nat) : Int)) := by
  unfold F_Pla_mostMeeting
  refine (lp_go (fun i => (zI ((fb_mx (fun k => gp_th A B C n (L.getD k (0, 0))) i : Nat) : Int), zI (i : Int))) L.length (zI ((fb_mx (fun k => gp_th A B C n (L.getD k (0, 0))) L.length : Nat) : Int)) rfl (by omega) (fun k hk => ?_) ?_).trans rfl
  · unfold F_Pla_mostMeeting_b4
    dsimp only
    obtain ⟨-, -, -, g4, -⟩ := gP_at hP hk
    have hb : bm (fun s => decide (gz_p A B C (L.getD k (0, 0)).1 (L.getD k (0, 0)).2 s = 0)) n < 64 := Nat.lt_of_lt_of_le (bm_lt _ n) (p2_64 h6)
    have hm : fb_mx (fun k => gp_th A B C n (L.getD k (0, 0))) k ≤ n := fb_mx_le.mpr (fun j _ => gp_th_le A B C n _)
    have ht := gp_th_le A B C n (L.getD k (0, 0))
    rw [hP.1, if_neg (zI_ge1 (by omega) hk), xo_rd_z (by omega) (by decide), Option.bind_some, g4, e_icount _ (by omega), Option.bind_some, ct_bm _ (by omega), xo_nm_b, xo_nm_b, zI_suc, fb_mx_suc]
    have e : fb_ct (fun s => decide (gz_p A B C (L.getD k (0, 0)).1 (L.getD k (0, 0)).2 s = 0)) n = gp_th A B C n (L.getD k (0, 0)) := rfl
    rw [e]
    congr 3
    by_cases hc : fb_mx (fun k => gp_th A B C n (L.getD k (0, 0))) k < gp_th A B C n (L.getD k (0, 0))
    · rw [if_pos (by rw [zI_lt (zB_n (by omega)) (zB_n (by omega))]; omega), if_pos hc]
    · rw [if_neg (by rw [zI_lt (zB_n (by omega)) (zB_n (by omega))]; omega), if_neg hc]
  · unfold F_Pla_mostMeeting_b4
    dsimp only
    rw [hP.1, if_pos (zI_rfl _)]
def gp_on (A B C : Nat → Int) (p q r : Int) (x : Nat × Nat) : Bool := decide (p * gz_X A B C (A x.1) (B x.1) (C x.1) x.2 + q * gz_Y A B C (A x.1) (B x.1) (C x.1) x.2 = r * gz_W A B (A x.1) (B x.1) x.2)
theorem gp_ls_lt {A B C : Nat → Int} {n k : Nat} (hk : k < (gp_ls A B C n n).length) : ((gp_ls A B C n n).getD k (0, 0)).1 < ((gp_ls A B C n n).getD k (0, 0)).2 ∧ ((gp_ls A B C n n).getD k (0, 0)).2 < n ∧ gp_f A B C ((gp_ls A B C n n).getD k (0, 0)).1 ((gp_ls A B C n n).getD k (0, 0)).2 = true := by
  have hm : (gp_ls A B C n n).getD k (0, 0) ∈ gp_ls A B C n n := by
    rw [List.getD, List.getElem?_eq_getElem hk]
    exact List.getElem_mem hk
  exact ((gp_ls_mem (Nat.le_refl n)).mp hm).2
theorem e_pointsOn {st : XS} {n : Nat} {A B C : Nat → Int} (h : cL st n A B C) (hP : gP A B C n st (gp_ls A B C n n)) {p q r : Int} (hp : ab 9 p) (hq : ab 9 q) (hr : ab 99 r) : F_Pla_pointsOn (zI p) (zI q) (zI r) st = some (zI ((ls_sm (fun x => if gp_on A B C p q r x then 1 else 0) (gp_ls A B C n n) : Nat) : Int)) := by
  have h6 := h.2.1
  have h15 := gp_ls_15 A B C h6
  have hlt := fun k hk => gp_ls_lt (A := A) (B := B) (C := C) (n := n) (k := k) hk
  generalize hL : gp_ls A B C n n = L at *
  unfold F_Pla_pointsOn
  rw [lp_cnt (fun k => gp_on A B C p q r (L.getD k (0, 0))) L.length (by omega) (fun k c hk => ?_) (fun c => ?_), ls_ct]
  · unfold F_Pla_pointsOn_b6
    dsimp only
    obtain ⟨g1, g2, g3, -, -⟩ := gP_at hP hk
    obtain ⟨l1, l2, -⟩ := hlt k hk
    rw [hP.1, if_neg (zI_ge1 (by omega) hk), xo_rd_z (by omega) (by decide), Option.bind_some, xo_rd_z (by omega) (by decide), Option.bind_some, xo_rd_z (by omega) (by decide), Option.bind_some, g1, g2, g3]
    generalize L.getD k (0, 0) = x at *
    obtain ⟨b1, b2, b3⟩ := h.2.2.2 x.1 (by omega)
    obtain ⟨bX, bY, bW⟩ := gX_ab h.2.2.2 b1 b2 b3 l2
    rw [zI_mul, zI_mul, zI_mul, zI_add, xo_nm_b, xo_nm_b, xo_nm_b, zI_suc, zI_suc]
    have hc : (zI (p * gz_X A B C (A x.1) (B x.1) (C x.1) x.2 + q * gz_Y A B C (A x.1) (B x.1) (C x.1) x.2) = zI (r * gz_W A B (A x.1) (B x.1) x.2)) ↔ gp_on A B C p q r x = true := by
      rw [zI_eq (ab_B (ab_add (ab_mul hp bX) (ab_mul hq bY)) (by decide)) (ab_B (ab_mul hr bW) (by decide))]
      unfold gp_on
      rw [decide_eq_true_eq]
    by_cases hg : gp_on A B C p q r x = true
    · rw [if_pos (hc.mpr hg), if_pos hg]
    · rw [if_neg (fun z => hg (hc.mp z)), if_neg hg]; rfl
  · unfold F_Pla_pointsOn_b6
    dsimp only
    rw [hP.1, if_pos (zI_rfl _)]
end
section
/-! loops that may end early -/
theorem lp_ex {σ ρ : Type} {f : σ → Option (σ ⊕ ρ)} (I : Nat → σ → Prop) (Q : ρ → Prop) : ∀ (N fuel : Nat) (x0 : σ), N < fuel → I 0 x0 → (∀ i x, i < N → I i x → (∃ y, f x = some (.inl y) ∧ I (i + 1) y) ∨ (∃ r, f x = some (.inr r) ∧ Q r)) → (∀ x, I N x → ∃ r, f x = some (.inr r) ∧ Q r) → ∃ r, xo_lp f fuel x0 = some r ∧ Q r := by
  intro N
  induction N generalizing I with
  | zero =>
    intro fuel x0 hf h0 _ he
    obtain ⟨m, rfl⟩ : ∃ m, fuel = m + 1 := ⟨fuel - 1, by omega⟩
    obtain ⟨r, h1, h2⟩ := he x0 h0
    refine ⟨r, ?_, h2⟩
    show (f x0).bind _ = _
    rw [h1]; rfl
  | succ N ih =>
    intro fuel x0 hf h0 hs he
    obtain ⟨m, rfl⟩ : ∃ m, fuel = m + 1 := ⟨fuel - 1, by omega⟩
    rcases hs 0 x0 (by omega) h0 with ⟨y, h1, h2⟩ | ⟨r, h1, h2⟩
    · obtain ⟨r, h3, h4⟩ := ih (fun i => I (i + 1)) m y (by omega) h2 (fun i x hi hx => hs (i + 1) x (by omega) hx) he
      refine ⟨r, ?_, h4⟩
      show (f x0).bind _ = _
      rw [h1]; exact h3
    · refine ⟨r, ?_, h2⟩
      show (f x0).bind _ = _
      rw [h1]; rfl
theorem an_suc (P : Nat → Bool) (n : Nat) : an P (n + 1) = (an P n || P n) := rfl
theorem lp_find {ρ : Type} {f : Int32 → Option (Int32 ⊕ ρ)} (P : Nat → Bool) (r1 r2 : ρ) (N : Nat) (hN : N < 1000000) (hs : ∀ k : Nat, k < N → f (zI (k : Int)) = if P k = true then some (.inr r1) else some (.inl (zI ((k + 1 : Nat) : Int)))) (he : f (zI (N : Int)) = some (.inr r2)) : xo_lp f 1000000 (0 : Int32) = some (if an P N = true then r1 else r2) := by
  suffices h : ∃ r, xo_lp f 1000000 (0 : Int32) = some r ∧ r = (if an P N = true then r1 else r2) by
    obtain ⟨r, h1, h2⟩ := h
    rw [h1, h2]
  refine lp_ex (fun (k : Nat) (x : Int32) => x = zI (k : Int) ∧ an P k = false) _ N 1000000 0 hN ⟨rfl, rfl⟩ ?_ ?_
  · rintro k x hk ⟨rfl, h2⟩
    rw [hs k hk]
    by_cases hP : P k = true
    · rw [if_pos hP]
      exact Or.inr ⟨r1, rfl, (if_pos (an_iff.mpr ⟨k, hk, hP⟩)).symm⟩
    · rw [if_neg hP]
      exact Or.inl ⟨_, rfl, rfl, by rw [an_suc, h2]; simpa using hP⟩
  · rintro x ⟨rfl, h2⟩
    rw [he]
    exact ⟨r2, rfl, by rw [if_neg (by rw [h2]; decide)]⟩
/-! lamps of the class -/
def gl_w (n k s : Nat) (sq : Prop) [Decidable sq] : Nat := if k = 1 then 2 else if k = 2 then 0 else if k = 3 then (if sq then 7 else 2) else if k = 4 then 1 + s else if k = 5 then (if s + 1 = n then 7 else 0) else 1
theorem bt_z : ∀ k, k < 64 → ∀ s, s < 6 → (((zI ((k : Nat) : Int) >>> (zI ((s : Nat) : Int) &&& 31)) &&& (1 : Int32) = (0 : Int32)) ↔ k.testBit s = false) := by decide +kernel
theorem e_lampsAt {st : XS} {n : Nat} {A B C : Nat → Int} (h : cL st n A B C) {s k : Nat} (hs : s < n) (hk : st.1 2 s = zI (k : Int)) (hk6 : k < 6) (sq : Prop) [Decidable sq] : F_Pla_lampsAt (zI (s : Int)) (zI (if sq then 1 else 0)) st = some (zI ((gl_w n k s sq : Nat) : Int)) := by
  have h6 := h.2.1
  unfold F_Pla_lampsAt
  rw [xo_nm_b, xo_rd_z (by omega) (by decide), Option.bind_some, hk, h.1]
  have hv : ∀ j : Int, zB j → (zI (k : Int) = zI j ↔ (k : Int) = j) := fun j hj => zI_eq (zB_n (by omega)) hj
  have e1 : (zI (k : Int) = (1 : Int32)) ↔ k = 1 := (hv 1 (by decide)).trans (by omega)
  have e2 : (zI (k : Int) = (2 : Int32)) ↔ k = 2 := (hv 2 (by decide)).trans (by omega)
  have e3 : (zI (k : Int) = (3 : Int32)) ↔ k = 3 := (hv 3 (by decide)).trans (by omega)
  have e4 : (zI (k : Int) = (4 : Int32)) ↔ k = 4 := (hv 4 (by decide)).trans (by omega)
  have e5 : (zI (k : Int) = (5 : Int32)) ↔ k = 5 := (hv 5 (by decide)).trans (by omega)
  have e6 : (zI (s : Int) = zI (n : Int) - (1 : Int32)) ↔ s + 1 = n := by
    rw [zI_1, zI_sub, zI_eq (zB_n (by omega)) ⟨by omega, by omega⟩]; omega
  have e7 : (1 : Int32) + zI (s : Int) = zI ((1 + s : Nat) : Int) := by rw [zI_1, zI_add]; congr 1
  unfold gl_w
  simp only [e1, e2, e3, e4, e5, e6, e7]
  by_cases k1 : k = 1
  · simp only [k1]; rfl
  by_cases k2 : k = 2
  · subst k2; rfl
  by_cases k3 : k = 3
  · subst k3
    by_cases hq : sq
    · simp only [if_pos hq]; rfl
    · simp only [if_neg hq]; rfl
  by_cases k4 : k = 4
  · subst k4; rfl
  by_cases k5 : k = 5
  · subst k5
    by_cases hq : s + 1 = n
    · simp only [if_pos hq]; rfl
    · simp only [if_neg hq]; rfl
  simp only [k1, k2, k3, k4, k5, if_false]; rfl
def gl_x (A B C : Nat → Int) (n k s : Nat) (x : Nat × Nat) : Nat := if gz_p A B C x.1 x.2 s = 0 then gl_w n k s (3 ≤ gp_th A B C n x) else 0
theorem e_lampsFrom {st : XS} {n : Nat} {A B C : Nat → Int} (h : cL st n A B C) (hP : gP A B C n st (gp_ls A B C n n)) {s k : Nat} (hs : s < n) (hk : st.1 2 s = zI (k : Int)) (hk6 : k < 6) : F_Pla_lampsFrom (zI (s : Int)) st = some (zI ((ls_sm (gl_x A B C n k s) (gp_ls A B C n n) : Nat) : Int)) := by
  have h6 := h.2.1
  have h15 := gp_ls_15 A B C h6
  generalize hL : gp_ls A B C n n = L at *
  unfold F_Pla_lampsFrom
  rw [← ls_sm_at]
  refine (lp_go (fun i => (zI ((fb_sm (fun j => gl_x A B C n k s (L.getD j (0, 0))) i : Nat) : Int), zI (i : Int))) L.length (zI ((fb_sm (fun j => gl_x A B C n k s (L.getD j (0, 0))) L.length : Nat) : Int)) rfl (by omega) (fun i hi => ?_) ?_).trans rfl
  · unfold F_Pla_lampsFrom_b4
    dsimp only
    obtain ⟨-, -, -, g4, -⟩ := gP_at hP hi
    have hb : bm (fun s => decide (gz_p A B C (L.getD i (0, 0)).1 (L.getD i (0, 0)).2 s = 0)) n < 64 := Nat.lt_of_lt_of_le (bm_lt _ n) (p2_64 h6)
    rw [hP.1, if_neg (zI_ge1 (by omega) hi), xo_rd_z (by omega) (by decide), Option.bind_some, g4, fb_sm_succ]
    have hz := bt_z _ hb s (by omega)
    rw [bm_tb] at hz
    by_cases hc : gz_p A B C (L.getD i (0, 0)).1 (L.getD i (0, 0)).2 s = 0
    · rw [if_neg (by rw [hz, decide_eq_true hs, decide_eq_true hc]; decide), e_isSq h6 hP h15 hi, Option.bind_some, e_lampsAt h hs hk hk6, Option.bind_some, xo_nm_b, xo_nm_b, zI_suc, zI_addn]
      have e : gl_x A B C n k s (L.getD i (0, 0)) = gl_w n k s (3 ≤ gp_th A B C n (L.getD i (0, 0))) := if_pos hc
      rw [e]
    · rw [if_pos (by rw [hz, decide_eq_false hc, Bool.and_false]), xo_nm_b, zI_suc]
      have e : gl_x A B C n k s (L.getD i (0, 0)) = 0 := if_neg hc
      rw [e]; rfl
  · unfold F_Pla_lampsFrom_b4
    dsimp only
    rw [hP.1, if_pos (zI_rfl _)]
end
section
/-! the class: all quarters, where plots lie, streets taken up -/
theorem ls_sm_le (P : Nat × Nat → Bool) : ∀ L : List (Nat × Nat), ls_sm (fun x => if P x then 1 else 0) L ≤ L.length
  | [] => Nat.le_refl 0
  | x :: l => by
    have h := ls_sm_le P l
    rw [ls_sm, List.length_cons]
    split <;> omega
theorem zI_64 : (64 : Int32) = zI ((64 : Nat) : Int) := rfl
theorem cnt_if {α : Type} {c : Prop} [Decidable c] {p : Bool} (h : c ↔ p = true) (a b : α) : (if c then a else b) = if p = true then a else b := by
  by_cases hc : c
  · rw [if_pos hc, if_pos (h.mp hc)]
  · rw [if_neg hc, if_neg (fun z => hc (h.mpr z))]
theorem e_whole {st : XS} {n : Nat} {A B C : Nat → Int} {Q : Nat → Bool} (h : cL st n A B C) (hQ : st.2 0 = lS Q) : F_All_whole st = some (zI ((fb_ct (fun q => Q q && decide (fb_ct (fun s => Q (q ^^^ 2 ^ s)) n = n)) 64 : Nat) : Int)) := by
  have h6 := h.2.1
  unfold F_All_whole
  rw [lp_cnt (fun q => Q q && decide (fb_ct (fun s => Q (q ^^^ 2 ^ s)) n = n)) 64 (by omega) (fun k c hk => ?_) (fun c => ?_)]
  · unfold F_All_whole_b4
    dsimp only
    rw [zI_64, if_neg (zI_ge1 (by omega) hk), e_hasQn hQ hk, Option.bind_some]
    by_cases hq : Q k = true
    · have hle := fb_ct_le (fun s => Q (k ^^^ 2 ^ s)) n
      rw [if_pos hq, if_neg (by decide), e_sidesOf h hQ hk, Option.bind_some, h.1, hq, Bool.true_and, xo_nm_b, xo_nm_b, xo_nm_b, zI_suc, zI_suc]
      by_cases hc : fb_ct (fun s => Q (k ^^^ 2 ^ s)) n = n
      · rw [if_pos (by rw [hc]), if_pos (decide_eq_true hc)]
      · rw [if_neg (by rw [zI_eq (zB_n (by omega)) (zB_n (by omega)), Int.ofNat_inj]; exact hc), if_neg (by simpa using hc)]; rfl
    · rw [if_neg hq, if_pos (show zI 0 = 0 from rfl), xo_nm_b, zI_suc, if_neg (by simp [hq])]; rfl
  · unfold F_All_whole_b4
    dsimp only
    rw [zI_64, if_pos (zI_rfl _)]
theorem e_with {st : XS} {n : Nat} {A B C : Nat → Int} {Q : Nat → Bool} (h6 : n ≤ 6) (hP : gP A B C n st (gp_ls A B C n n)) (hQ : st.2 0 = lS Q) {w : Nat} (hw : w ≤ 12) : F_All_with (zI (w : Int)) st = some (zI ((fb_ct (fun q => Q q && decide (ls_sm (fun x => if gp_g A B C n q x then 1 else 0) (gp_ls A B C n n) = w)) 64 : Nat) : Int), st) := by
  have h15 := gp_ls_15 A B C h6
  unfold F_All_with
  have e12 : (12 : Int32) = zI ((12 : Nat) : Int) := rfl
  rw [zI_0, if_pos (by rw [zI_le (by decide) (zB_n (by omega))]; omega), e12, if_pos (by rw [zI_le (zB_n (by omega)) (by decide)]; omega)]
  rw [show zI 0 = (0 : Int32) from rfl, lp_cnt (fun q => Q q && decide (ls_sm (fun x => if gp_g A B C n q x then 1 else 0) (gp_ls A B C n n) = w)) 64 (by omega) (fun k c hk => ?_) (fun c => ?_)]
  · unfold F_All_with_b28
    dsimp only
    rw [zI_64, if_neg (zI_ge1 (by omega) hk), e_hasQn hQ hk, Option.bind_some]
    by_cases hq : Q k = true
    · have hle := ls_sm_le (gp_g A B C n k) (gp_ls A B C n n)
      rw [if_pos hq, if_neg (by decide), e_corners h6 hP hk, Option.bind_some, hq, Bool.true_and, xo_nm_b, xo_nm_b, xo_nm_b, zI_suc, zI_suc]
      by_cases hc : ls_sm (fun x => if gp_g A B C n k x then 1 else 0) (gp_ls A B C n n) = w
      · rw [if_pos (by rw [hc]), if_pos (decide_eq_true hc)]
      · rw [if_neg (by rw [zI_eq (zB_n (by omega)) (zB_n (by omega)), Int.ofNat_inj]; exact hc), if_neg (by simpa using hc)]; rfl
    · rw [if_neg hq, if_pos (show zI 0 = 0 from rfl), xo_nm_b, zI_suc, if_neg (by simp [hq])]; rfl
  · unfold F_All_with_b28
    dsimp only
    rw [zI_64, if_pos (zI_rfl _)]
/-- where a point lies: the number, or -9 -/
def gw_z (A B C : Nat → Int) (n : Nat) (x y : Int) : Bool := an (fun s => decide (gz_h A B C s x y 1 = 0)) n
def gw_b (A B C : Nat → Int) (n : Nat) (x y : Int) : Nat := bm (fun s => decide (0 < gz_h A B C s x y 1)) n
def gw (A B C : Nat → Int) (n : Nat) (x y : Int) : Int := if gw_z A B C n x y = true then -9 else (gw_b A B C n x y : Int)
theorem gw_b_lt {A B C : Nat → Int} {n : Nat} (h6 : n ≤ 6) (x y : Int) : gw_b A B C n x y < 64 := Nat.lt_of_lt_of_le (bm_lt _ n) (p2_64 h6)
theorem gw_B {A B C : Nat → Int} {n : Nat} (h6 : n ≤ 6) (x y : Int) : zB (gw A B C n x y) := by
  have := gw_b_lt (A := A) (B := B) (C := C) h6 x y
  unfold gw
  split <;> constructor <;> omega
theorem bm_z {P : Nat → Bool} {n : Nat} : bm P n = 0 ↔ an P n = false := by
  constructor
  · intro h
    rw [Bool.eq_false_iff, Ne, an_iff]
    rintro ⟨s, hs, hp⟩
    have := bm_tb P n s
    rw [h, Nat.zero_testBit, hp] at this
    simp [hs] at this
  · intro h
    rw [Bool.eq_false_iff, Ne, an_iff] at h
    apply Nat.eq_of_testBit_eq
    intro i
    rw [bm_tb, Nat.zero_testBit]
    by_cases hi : i < n
    · have : ¬ P i = true := fun z => h ⟨i, hi, z⟩
      simp [this]
    · simp [hi]
theorem e_qAt {st : XS} {n : Nat} {A B C : Nat → Int} (h : cL st n A B C) {x y : Int} (hx : ab 20 x) (hy : ab 20 y) : F_Pla_quarterAt (zI x) (zI y) st = some (zI (gw A B C n x y)) := by
  have h6 := h.2.1
  unfold F_Pla_quarterAt
  have hx2 : ab 1782 x := by unfold ab at *; omega
  have hy2 : ab 1782 y := by unfold ab at *; omega
  rw [zI_1, e_through h hx2 hy2 (by unfold ab; decide), Option.bind_some, e_sides h hx2 hy2 (by unfold ab; decide), Option.bind_some]
  have hb : bm (fun s => decide (gz_h A B C s x y 1 = 0)) n < 64 := Nat.lt_of_lt_of_le (bm_lt _ n) (p2_64 h6)
  unfold gw
  by_cases hc : gw_z A B C n x y = true
  · rw [if_neg (by rw [zI_0, zI_eq (zB_n (by omega)) (by decide)]; intro z; have := (bm_z (P := fun s => decide (gz_h A B C s x y 1 = 0)) (n := n)).mp (by omega); unfold gw_z at hc; rw [hc] at this; cases this), if_pos hc]; rfl
  · have hz := (bm_z (P := fun s => decide (gz_h A B C s x y 1 = 0)) (n := n)).mpr (by unfold gw_z at hc; simpa using hc)
    rw [if_pos (by rw [hz]; rfl), if_neg hc]; rfl
/-- the plots of a town -/
def pL (st : XS) (P : Nat) (X Y : Nat → Int) : Prop := st.1 1 7 = zI (P : Int) ∧ P ≤ 8 ∧ ∀ p, p < P → st.1 6 p = zI (X p) ∧ st.1 7 p = zI (Y p) ∧ ab 20 (X p) ∧ ab 20 (Y p)
theorem e_hasPlot {st : XS} {P : Nat} {X Y : Nat → Int} (h : pL st P X Y) {x : Int} (hx : zB x) : F_Tow_hasPlot (zI x) st = some (zI (if 0 ≤ x ∧ x < (P : Int) then 1 else 0)) := by
  have h8 := h.2.1
  unfold F_Tow_hasPlot
  rw [zI_0, h.1]
  by_cases h1 : x < 0
  · rw [if_pos ((zI_lt hx (by decide)).mpr h1), if_neg (by omega)]
  · rw [if_neg (by rw [zI_lt hx (by decide)]; exact h1)]
    by_cases h2 : (P : Int) ≤ x
    · rw [if_pos ((zI_le (zB_n (by omega)) hx).mpr h2), if_neg (by omega)]
    · rw [if_neg (by rw [zI_le (zB_n (by omega)) hx]; exact h2), if_pos (by omega)]; rfl
theorem e_hasStreet {st : XS} {n : Nat} {A B C : Nat → Int} (h : cL st n A B C) {x : Int} (hx : zB x) : F_Tow_hasStreet (zI x) st = some (zI (if 0 ≤ x ∧ x < (n : Int) then 1 else 0)) := by
  have h8 := h.2.1
  unfold F_Tow_hasStreet
  rw [zI_0, h.1]
  by_cases h1 : x < 0
  · rw [if_pos ((zI_lt hx (by decide)).mpr h1), if_neg (by omega)]
  · rw [if_neg (by rw [zI_lt hx (by decide)]; exact h1)]
    by_cases h2 : (n : Int) ≤ x
    · rw [if_pos ((zI_le (zB_n (by omega)) hx).mpr h2), if_neg (by omega)]
    · rw [if_neg (by rw [zI_le (zB_n (by omega)) hx]; exact h2), if_pos (by omega)]; rfl
theorem e_qPlot {st : XS} {n P : Nat} {A B C X Y : Nat → Int} (h : cL st n A B C) (g : pL st P X Y) {p : Nat} (hp : p < P) : F_Pla_quarterOfPlot (zI (p : Int)) st = some (zI (gw A B C n (X p) (Y p))) := by
  have h8 := g.2.1
  obtain ⟨g1, g2, g3, g4⟩ := g.2.2 p hp
  unfold F_Pla_quarterOfPlot
  rw [e_hasPlot g (zB_n (by omega)), Option.bind_some, if_pos (show (0 : Int) ≤ (p : Int) ∧ (p : Int) < (P : Int) from ⟨by omega, by omega⟩), if_neg (by decide), xo_rd_z (by omega) (by decide), Option.bind_some, xo_rd_z (by omega) (by decide), Option.bind_some, g1, g2, e_qAt h g3 g4]; rfl
theorem e_hasDir {st : XS} {n : Nat} {A B C : Nat → Int} (h : cL st n A B C) {p q : Int} (hp : ab 9 p) (hq : ab 9 q) : F_Tow_hasDirection_v1 (zI p) (zI q) st = some (zI (if an (fun s => decide (gz_t A B p q s = 0)) n = true then 1 else 0)) := by
  have h6 := h.2.1
  unfold F_Tow_hasDirection_v1
  rw [lp_find (fun s => decide (gz_t A B p q s = 0)) (.inl ()) (.inr ()) n (by omega) (fun k hk => ?_) ?_]
  · rw [Option.bind_some]
    split <;> rfl
  · unfold F_Tow_hasDirection_v1_b2
    rw [h.1, if_pos (zI_rfl _)]
  · unfold F_Tow_hasDirection_v1_b2
    rw [h.1, if_neg (zI_ge1 (by omega) hk), e_turn h p q hk, Option.bind_some, xo_nm_b, zI_suc, zI_0]
    exact cnt_if (by rw [zI_eq (ab_B (gt_ab h.2.2.2 hp hq hk) (by decide)) (by decide), decide_eq_true_eq]) _ _
theorem e_hasPlotOn {st : XS} {P : Nat} {X Y : Nat → Int} (g : pL st P X Y) {p q r : Int} (hp : ab 9 p) (hq : ab 9 q) (hr : ab 99 r) : F_Tow_hasPlotOn (zI p) (zI q) (zI r) st = some (zI (if an (fun k => decide (p * X k + q * Y k = r)) P = true then 1 else 0)) := by
  have h8 := g.2.1
  unfold F_Tow_hasPlotOn
  rw [lp_find (fun k => decide (p * X k + q * Y k = r)) (.inl ()) (.inr ()) P (by omega) (fun k hk => ?_) ?_]
  · rw [Option.bind_some]
    split <;> rfl
  · unfold F_Tow_hasPlotOn_b3
    rw [g.1, if_pos (zI_rfl _)]
  · unfold F_Tow_hasPlotOn_b3
    obtain ⟨g1, g2, g3, g4⟩ := g.2.2 k hk
    rw [g.1, if_neg (zI_ge1 (by omega) hk), xo_rd_z (by omega) (by decide), Option.bind_some, xo_rd_z (by omega) (by decide), Option.bind_some, g1, g2, zI_mul, zI_mul, zI_add, xo_nm_b, zI_suc]
    exact cnt_if (by rw [zI_eq (ab_B (ab_add (ab_mul hp g3) (ab_mul hq g4)) (by decide)) (ab_B hr (by decide)), decide_eq_true_eq]) _ _
end
section
/-! the class: sets of quarters with plots, and without a street -/
theorem off_z : ∀ q, q < 64 → ∀ s, s < 6 → (zI ((q : Nat) : Int) &&& (((1 : Int32) <<< (zI ((s : Nat) : Int) &&& 31)) ^^^ (-1 : Int32))) = zI ((gz_off q s : Nat) : Int) ∧ gz_off q s < 64 := by decide +kernel
def gq_W (Q : Nat → Bool) (s k m : Nat) : Bool := an (fun q => Q q && decide (m = gz_off q s)) k
theorem e_qWithout {st : XS} {Q : Nat → Bool} (hQ : st.2 0 = lS Q) {s : Nat} (hs : s < 6) : F_Pla_quartersWithout (zI (s : Int)) st = some (zI ((fb_ct (gq_W Q s 64) 64 : Nat) : Int)) := by
  unfold F_Pla_quartersWithout
  rw [lp_go (fun i => (lS (gq_W Q s i), zI (i : Int))) 64 (lS (gq_W Q s 64)) (by rw [lS_0]; rfl) (by omega) (fun k hk => ?_) ?_, e_count]; rfl
  · unfold F_Pla_quartersWithout_b5
    dsimp only
    rw [zI_64, if_pos (zI_rfl _)]
  · unfold F_Pla_quartersWithout_b5
    dsimp only
    rw [zI_64, if_neg (zI_ge1 (by omega) hk), e_hasQn hQ hk, Option.bind_some]
    obtain ⟨h1, h2⟩ := off_z k hk s hs
    by_cases hq : Q k = true
    · rw [if_pos hq, if_neg (by decide), h1, lS_one h2, lS_or, xo_nm_b, xo_nm_b, zI_suc]
      congr 3
      apply lS_cong
      intro m _
      unfold gq_W
      rw [an_suc, hq, Bool.true_and]
    · rw [if_neg hq, if_pos (show zI 0 = 0 from rfl), xo_nm_b, zI_suc]
      congr 3
      apply lS_cong
      intro m _
      unfold gq_W
      rw [an_suc]
      simp [hq]
def gq_P (A B C X Y : Nat → Int) (n P m : Nat) : Bool := an (fun p => decide ((m : Int) = gw A B C n (X p) (Y p))) P
theorem gw_9 {A B C : Nat → Int} {n : Nat} (h6 : n ≤ 6) (x y : Int) : (zI (gw A B C n x y) = (-9 : Int32)) ↔ gw_z A B C n x y = true := by
  have h1 : (-9 : Int32) = zI (-9) := rfl
  rw [h1, zI_eq (gw_B h6 x y) (by decide)]
  unfold gw
  constructor
  · intro h
    split at h
    · assumption
    · omega
  · intro h
    rw [if_pos h]
theorem gw_n {A B C : Nat → Int} {n : Nat} {x y : Int} (h : ¬ gw_z A B C n x y = true) : gw A B C n x y = (gw_b A B C n x y : Int) := by
  unfold gw; rw [if_neg h]
theorem gw_p {A B C : Nat → Int} {n : Nat} {x y : Int} (h : gw_z A B C n x y = true) : gw A B C n x y = -9 := by
  unfold gw; rw [if_pos h]
theorem e_qWithPlots {st : XS} {n P : Nat} {A B C X Y : Nat → Int} (h : cL st n A B C) (g : pL st P X Y) : F_Pla_quartersWithPlots st = some (lS (gq_P A B C X Y n P)) := by
  have h6 := h.2.1
  have h8 := g.2.1
  unfold F_Pla_quartersWithPlots
  rw [lp_go (fun i => (lS (gq_P A B C X Y n i), zI (i : Int))) P (lS (gq_P A B C X Y n P)) (by rw [lS_0]; rfl) (by omega) (fun k hk => ?_) ?_]
  · unfold F_Pla_quartersWithPlots_b4
    dsimp only
    rw [g.1, if_pos (zI_rfl _)]
  · unfold F_Pla_quartersWithPlots_b4
    dsimp only
    rw [g.1, if_neg (zI_ge1 (by omega) hk), e_qPlot h g hk, Option.bind_some]
    by_cases hz : gw_z A B C n (X k) (Y k) = true
    · rw [if_pos ((gw_9 h6 _ _).mpr hz), xo_nm_b, zI_suc]
      congr 3
      apply lS_cong
      intro m _
      unfold gq_P
      rw [an_suc, gw_p hz]
      have : ¬ (m : Int) = -9 := by omega
      simp [this]
    · rw [if_neg (fun z => hz ((gw_9 h6 _ _).mp z)), gw_n hz, lS_one (gw_b_lt h6 _ _), lS_or, xo_nm_b, xo_nm_b, zI_suc]
      congr 3
      apply lS_cong
      intro m _
      unfold gq_P
      rw [an_suc, gw_n hz]
      congr 1
      by_cases e : m = gw_b A B C n (X k) (Y k)
      · rw [decide_eq_true e, decide_eq_true (by omega)]
      · rw [decide_eq_false e, decide_eq_false (by omega)]
end
section
/-! THE REFERENCE: its small functions -/
def mL (st : XS) (n : Nat) (A B C : Nat → Int) : Prop := n ≤ 7 ∧ (∀ s, s < n → st.1 2 s = zI (A s) ∧ st.1 3 s = zI (B s) ∧ st.1 4 s = zI (C s)) ∧ gB A B C n
theorem mL_of {st t : XS} {n : Nat} {A B C : Nat → Int} (h : mL st n A B C) (e2 : t.1 2 = st.1 2) (e3 : t.1 3 = st.1 3) (e4 : t.1 4 = st.1 4) : mL t n A B C := by
  unfold mL at *
  rw [e2, e3, e4]; exact h
def sg3 (x : Int) : Int := if 0 < x then 1 else if x < 0 then -1 else 0
theorem sg3_B (x : Int) : zB (sg3 x) := by
  unfold sg3; split
  · decide
  · split <;> decide
theorem sg3_0 {x : Int} : sg3 x = 0 ↔ x = 0 := by
  unfold sg3; split
  · omega
  · split <;> omega
theorem sg3_p {x : Int} : 0 < sg3 x ↔ 0 < x := by
  unfold sg3; split
  · omega
  · split <;> omega
theorem sg3_z {x : Int} : (zI (sg3 x) = (0 : Int32)) ↔ x = 0 := by
  rw [zI_0, zI_eq (sg3_B x) (by decide), sg3_0]
theorem sg3_le {x : Int} : (zI (sg3 x) ≤ (0 : Int32)) ↔ ¬ 0 < x := by
  rw [zI_0, zI_le (sg3_B x) (by decide), ← sg3_p]; omega
theorem sg3_if {x : Int} (h : zB x) : (if zI x ≤ (0 : Int32) then if (0 : Int32) ≤ zI x then some (0 : Int32) else some (-1 : Int32) else some (1 : Int32)) = some (zI (sg3 x)) := by
  rw [zI_0]
  unfold sg3
  rcases Int.lt_trichotomy x 0 with q | q | q
  · rw [if_pos (by rw [zI_le h (by decide)]; omega), if_neg (by rw [zI_le (by decide) h]; omega), if_neg (by omega), if_pos q]; rfl
  · subst q
    rw [if_pos (zI_rfl 0), if_pos (zI_rfl 0)]; rfl
  · rw [if_neg (by rw [zI_le h (by decide)]; omega), if_pos q]; rfl
theorem gp_ab {A B C : Nat → Int} {n : Nat} (hb : gB A B C n) {i j s : Nat} (hi : i < n) (hj : j < n) (hs : s < n) : ab 48114 (gz_p A B C i j s) := by
  obtain ⟨h1, h2, h3⟩ := hb i hi
  obtain ⟨bX, bY, bW⟩ := gX_ab hb h1 h2 h3 hj
  exact gh_ab hb bX bY bW hs
theorem e_msoc {st : XS} {n : Nat} {A B C : Nat → Int} (h : mL st n A B C) {s i j : Nat} (hs : s < n) (hi : i < n) (hj : j < n) : F_Mod_sideOfCrossing (zI (s : Int)) (zI (i : Int)) (zI (j : Int)) st = some (zI (sg3 (gz_p A B C i j s))) := by
  obtain ⟨h7, hl, hb⟩ := h
  obtain ⟨s1, s2, s3⟩ := hl s hs
  obtain ⟨i1, i2, i3⟩ := hl i hi
  obtain ⟨j1, j2, j3⟩ := hl j hj
  have hp := gp_ab hb hi hj hs
  have ht := gt_ab hb (hb i hi).1 (hb i hi).2.1 hj
  unfold F_Mod_sideOfCrossing F_Mod_sideOfCrossing_m128
  simp only [xo_rd_z (show s < 7 by omega) (by decide), xo_rd_z (show i < 7 by omega) (by decide), xo_rd_z (show j < 7 by omega) (by decide), Option.bind_some, s1, s2, s3, i1, i2, i3, j1, j2, j3, zI_mul, zI_sub, zI_add, zI_neg, xo_nm_b]
  have e1 : A i * B j - A j * B i = gz_t A B (A i) (B i) j := by unfold gz_t; grind
  rw [e1]
  have e2 : gz_p A B C i j s = gz_sg (gz_t A B (A i) (B i) j) * (A s * (C i * B j - C j * B i) + B s * (A i * C j - A j * C i) - C s * gz_t A B (A i) (B i) j) := by
    unfold gz_p gz_e gz_h gz_X gz_Y gz_W
    generalize gz_sg (gz_t A B (A i) (B i) j) = g
    generalize gz_t A B (A i) (B i) j = t
    grind
  rw [e2] at hp ⊢
  generalize gz_t A B (A i) (B i) j = t at *
  generalize A s * (C i * B j - C j * B i) + B s * (A i * C j - A j * C i) - C s * t = v at *
  have hv : zB v ∧ zB (-v) := by
    unfold ab at hp
    rcases gz_sg_or t with g | g <;> rw [g] at hp <;> (unfold zB; omega)
  unfold gz_sg
  by_cases hc : t < 0
  · rw [if_pos hc, if_neg (by rw [zI_0, zI_le (by decide) (ab_B ht (by decide))]; omega), sg3_if hv.2]
    congr 3; omega
  · rw [if_neg hc, if_pos (by rw [zI_0, zI_le (by decide) (ab_B ht (by decide))]; omega), sg3_if hv.1, Int.one_mul]
theorem e_mside {st : XS} {n : Nat} {A B C : Nat → Int} (h : mL st n A B C) {s : Nat} (hs : s < n) {x y : Int} (hx : ab 20 x) (hy : ab 20 y) : F_Mod_side (zI (s : Int)) (zI x) (zI y) st = some (zI (sg3 (gz_h A B C s x y 1))) := by
  obtain ⟨h7, hl, hb⟩ := h
  obtain ⟨s1, s2, s3⟩ := hl s hs
  have hx2 : ab 1782 x := by unfold ab at *; omega
  have hy2 : ab 1782 y := by unfold ab at *; omega
  have hp := gh_ab hb hx2 hy2 (show ab 162 1 by unfold ab; decide) hs
  unfold F_Mod_side
  rw [xo_rd_z (by omega) (by decide), Option.bind_some, xo_rd_z (by omega) (by decide), Option.bind_some, xo_rd_z (by omega) (by decide), Option.bind_some, s1, s2, s3, zI_mul, zI_mul, zI_add, zI_sub, xo_nm_b]
  have e : A s * x + B s * y - C s = gz_h A B C s x y 1 := by unfold gz_h; omega
  rw [e]
  exact sg3_if (ab_B hp (by decide))
theorem e_malong {st : XS} {n : Nat} {A B C : Nat → Int} (h : mL st n A B C) {s i : Nat} (hs : s < n) (hi : i < n) (w : Bool) : F_Mod_along (zI (s : Int)) (zI (i : Int)) (zI (if w then 1 else 0)) st = some (zI (sg3 ((if w then -1 else 1) * gz_t A B (A i) (B i) s))) := by
  obtain ⟨h7, hl, hb⟩ := h
  obtain ⟨s1, s2, s3⟩ := hl s hs
  obtain ⟨i1, i2, i3⟩ := hl i hi
  have ht := gt_ab hb (hb i hi).1 (hb i hi).2.1 hs
  unfold F_Mod_along F_Mod_along_m38
  simp only [xo_rd_z (show s < 7 by omega) (by decide), xo_rd_z (show i < 7 by omega) (by decide), Option.bind_some, s1, s2, s3, i1, i2, i3, zI_mul, zI_sub, zI_neg, xo_nm_b]
  have e1 : B s * A i - A s * B i = gz_t A B (A i) (B i) s := by unfold gz_t; grind
  rw [e1]
  cases w with
  | true =>
    rw [if_neg (by decide), if_pos rfl, sg3_if (ab_B (ab_neg ht) (by decide))]
    congr 3; omega
  | false =>
    rw [if_pos (show zI (if false = true then 1 else 0) = 0 from rfl), sg3_if (ab_B ht (by decide)), if_neg (by decide), Int.one_mul]
theorem e_misFirst {st : XS} {n : Nat} {A B C : Nat → Int} (h : mL st n A B C) {i j : Nat} (hi : i < j) (hj : j < n) : F_Mod_isFirst (zI (i : Int)) (zI (j : Int)) st = some (zI (if gp_f A B C i j = true then 1 else 0)) := by
  have h7 := h.1
  unfold F_Mod_isFirst
  rw [lp_find (fun k => decide (k ≠ i) && decide (gz_p A B C i j k = 0)) (.inl ()) (.inr ()) j (by omega) (fun k hk => ?_) ?_]
  · rw [Option.bind_some]
    unfold gp_f
    cases an (fun k => decide (k ≠ i) && decide (gz_p A B C i j k = 0)) j <;> rfl
  · unfold F_Mod_isFirst_b2
    rw [if_pos (zI_rfl _)]
  · unfold F_Mod_isFirst_b2
    rw [if_neg (zI_ge1 (by omega) hk), xo_nm_b, zI_suc]
    by_cases e : k = i
    · subst e
      rw [if_pos rfl, if_neg (by simp)]
    · rw [if_neg (by rw [zI_eq (zB_n (by omega)) (zB_n (by omega))]; omega), e_msoc h (by omega) (by omega) hj, Option.bind_some]
      exact cnt_if (by rw [sg3_z]; simp [e]) _ _
theorem e_misDir {st : XS} {n : Nat} {A B C : Nat → Int} (h : mL st n A B C) {p q : Int} (hp : ab 9 p) (hq : ab 9 q) : F_Mod_isDirection (zI p) (zI q) (zI (n : Int)) st = some (zI (if an (fun s => decide (gz_t A B p q s = 0)) n = true then 1 else 0)) := by
  obtain ⟨h7, hl, hb⟩ := h
  unfold F_Mod_isDirection
  rw [lp_find (fun s => decide (gz_t A B p q s = 0)) (.inl ()) (.inr ()) n (by omega) (fun k hk => ?_) ?_]
  · rw [Option.bind_some]
    split <;> rfl
  · unfold F_Mod_isDirection_b3
    rw [if_pos (zI_rfl _)]
  · unfold F_Mod_isDirection_b3
    obtain ⟨s1, s2, s3⟩ := hl k hk
    obtain ⟨b1, b2, b3⟩ := hb k hk
    rw [if_neg (zI_ge1 (by omega) hk), xo_rd_z (by omega) (by decide), Option.bind_some, xo_rd_z (by omega) (by decide), Option.bind_some, s1, s2, zI_mul, zI_mul, xo_nm_b, zI_suc]
    refine cnt_if ?_ _ _
    rw [zI_eq (ab_B (ab_mul b1 hq) (by decide)) (ab_B (ab_mul hp b2) (by decide)), decide_eq_true_eq]
    unfold gz_t
    have : A k * q = q * A k := Int.mul_comm _ _
    omega
theorem e_mhas : ∀ k, k < 128 → ∀ i, i < 7 → F_Mod_has (zI ((k : Nat) : Int)) (zI ((i : Nat) : Int)) = some (zI (if k.testBit i = true then 1 else 0)) := by decide +kernel
theorem e_mwithin {x a b : Int} (hx : zB x) (ha : zB a) (hb : zB b) : F_Mod_within (zI x) (zI a) (zI b) = some (zI (if a ≤ x ∧ x ≤ b then 1 else 0)) := by
  unfold F_Mod_within
  by_cases h1 : x < a
  · rw [if_pos ((zI_lt hx ha).mpr h1), if_neg (by omega)]; rfl
  · rw [if_neg (fun z => h1 ((zI_lt hx ha).mp z))]
    by_cases h2 : b < x
    · rw [if_pos ((zI_lt hb hx).mpr h2), if_neg (by omega)]; rfl
    · rw [if_neg (fun z => h2 ((zI_lt hb hx).mp z)), if_pos (by omega)]; rfl
theorem e_misStreet {st : XS} {n : Nat} (h : st.1 0 0 = zI (n : Int)) (hn : n ≤ 7) {x : Int} (hx : zB x) : F_Mod_isStreet (zI x) st = some (zI (if 0 ≤ x ∧ x < (n : Int) then 1 else 0)) := by
  unfold F_Mod_isStreet
  rw [h, zI_1, zI_sub, zI_0, e_mwithin hx (by decide) ⟨by omega, by omega⟩, Option.bind_some, xo_cb_b, Option.bind_some]
  congr 2
  by_cases hc : 0 ≤ x ∧ x < (n : Int)
  · rw [if_pos hc, if_pos (by omega)]
  · rw [if_neg hc, if_neg (by omega)]
theorem e_misPlot {st : XS} {P : Nat} (h : st.1 0 5 = zI (P : Int)) (hn : P ≤ 8) {x : Int} (hx : zB x) : F_Mod_isPlot (zI x) st = some (zI (if 0 ≤ x ∧ x < (P : Int) then 1 else 0)) := by
  unfold F_Mod_isPlot
  rw [h, zI_1, zI_sub, zI_0, e_mwithin hx (by decide) ⟨by omega, by omega⟩, Option.bind_some, xo_cb_b, Option.bind_some]
  congr 2
  by_cases hc : 0 ≤ x ∧ x < (P : Int)
  · rw [if_pos hc, if_pos (by omega)]
  · rw [if_neg hc, if_neg (by omega)]
end
section
/-! the reference: where a point lies; quarters about a point -/
theorem an_mono {P : Nat → Bool} {k n : Nat} (hk : k ≤ n) (h : an P k = true) : an P n = true := by
  obtain ⟨s, hs, hp⟩ := an_iff.mp h
  exact an_iff.mpr ⟨s, by omega, hp⟩
theorem e_mat {st : XS} {n : Nat} {A B C : Nat → Int} (h : mL st n A B C) (h0 : st.1 0 0 = zI (n : Int)) {x y : Int} (hx : ab 20 x) (hy : ab 20 y) : F_Mod_at (zI x) (zI y) st = some (zI (gw A B C n x y)) := by
  have h7 := h.1
  unfold F_Mod_at
  suffices hs : ∃ r, xo_lp (fun q : (Int32 × Int32) => F_Mod_at_b5 (zI x) (zI y) st q.1 q.2) 1000000 ((0 : Int32), (0 : Int32)) = some r ∧ r = (if gw_z A B C n x y = true then Sum.inl () else Sum.inr (zI (gw_b A B C n x y : Int))) by
    obtain ⟨r, h1, h2⟩ := hs
    rw [h1, h2, Option.bind_some]
    unfold gw
    split <;> rfl
  refine lp_ex (fun (k : Nat) (q : Int32 × Int32) => q = (zI ((bm (fun s => decide (0 < gz_h A B C s x y 1)) k : Nat) : Int), zI (k : Int)) ∧ an (fun s => decide (gz_h A B C s x y 1 = 0)) k = false) _ n 1000000 _ (by omega) ⟨rfl, rfl⟩ ?_ ?_
  · rintro k q hk ⟨rfl, h2⟩
    dsimp only
    unfold F_Mod_at_b5
    rw [h0, if_neg (zI_ge1 (by omega) hk), e_mside h hk hx hy, Option.bind_some]
    by_cases hz : gz_h A B C k x y 1 = 0
    · rw [if_pos (sg3_z.mpr hz)]
      exact Or.inr ⟨_, rfl, (if_pos (an_iff.mpr ⟨k, hk, by simp [hz]⟩)).symm⟩
    · rw [if_neg (fun z => hz (sg3_z.mp z))]
      refine Or.inl ⟨(zI ((bm (fun s => decide (0 < gz_h A B C s x y 1)) (k + 1) : Nat) : Int), zI ((k + 1 : Nat) : Int)), ?_, rfl, by rw [an_suc, h2]; simp [hz]⟩
      by_cases hp : 0 < gz_h A B C k x y 1
      · rw [if_neg (fun z => sg3_le.mp z hp), xo_nm_b, xo_nm_b, zI_suc, bm_suc_t (by omega) (by simp [hp])]
      · rw [if_pos (sg3_le.mpr hp), xo_nm_b, zI_suc, bm_suc_f (by simp [hp])]
  · rintro q ⟨rfl, h2⟩
    dsimp only
    unfold F_Mod_at_b5
    rw [h0, if_pos (zI_rfl _)]
    exact ⟨_, rfl, by unfold gw_z gw_b; rw [if_neg (by rw [h2]; decide)]⟩
/-- the class of a plot, in the reference -/
def pM (st : XS) (P : Nat) (X Y : Nat → Int) : Prop := st.1 0 5 = zI (P : Int) ∧ P ≤ 8 ∧ ∀ p, p < P → st.1 6 p = zI (X p) ∧ st.1 7 p = zI (Y p) ∧ ab 20 (X p) ∧ ab 20 (Y p)
theorem e_mwhere {st : XS} {n P : Nat} {A B C X Y : Nat → Int} (h : mL st n A B C) (h0 : st.1 0 0 = zI (n : Int)) (g : pM st P X Y) {p : Nat} (hp : p < P) : F_Mod_whereIs (zI (p : Int)) st = some (zI (gw A B C n (X p) (Y p))) := by
  have h8 := g.2.1
  obtain ⟨g1, g2, g3, g4⟩ := g.2.2 p hp
  unfold F_Mod_whereIs
  rw [xo_rd_z (by omega) (by decide), Option.bind_some, xo_rd_z (by omega) (by decide), Option.bind_some, g1, g2, e_mat h h0 g3 g4]; rfl
/-- lines about a point see the sides rest along line i, this way -/
def ga_bad (A B : Nat → Int) (i : Nat) (w : Bool) (th rest s : Nat) : Bool := decide (s ≠ i) && th.testBit s && (decide (0 < (if w then -1 else 1) * gz_t A B (A i) (B i) s) != rest.testBit s)
def ga_ok (A B : Nat → Int) (n th rest i : Nat) : Bool := th.testBit i && (!(an (ga_bad A B i false th rest) n) || !(an (ga_bad A B i true th rest) n))
theorem e_about1 {st : XS} {n : Nat} {A B C : Nat → Int} (h : mL st n A B C) {th rest i : Nat} (hth : th < 128) (hr : rest < 128) (hi : i < n) (w : Bool) : xo_lp (fun q : (Int32 × Int32) => F_Mod_isAbout_b36 (zI (th : Int)) (zI (rest : Int)) (zI (n : Int)) (zI (i : Int)) (zI (if w then 1 else 0)) st q.1 q.2) 1000000 ((1 : Int32), (0 : Int32)) = some (zI (if an (ga_bad A B i w th rest) n = true then 0 else 1)) := by
  have h7 := h.1
  suffices hs : ∃ r, xo_lp (fun q : (Int32 × Int32) => F_Mod_isAbout_b36 (zI (th : Int)) (zI (rest : Int)) (zI (n : Int)) (zI (i : Int)) (zI (if w then 1 else 0)) st q.1 q.2) 1000000 ((1 : Int32), (0 : Int32)) = some r ∧ r = zI (if an (ga_bad A B i w th rest) n = true then 0 else 1) by
    obtain ⟨r, h1, h2⟩ := hs
    rw [h1, h2]
  refine lp_ex (fun (k : Nat) (q : Int32 × Int32) => q = (zI (if an (ga_bad A B i w th rest) k = true then 0 else 1), zI (k : Int))) _ n 1000000 _ (by omega) rfl ?_ ?_
  · rintro k q hk rfl
    dsimp only
    unfold F_Mod_isAbout_b36
    rw [if_neg (zI_ge1 (by omega) hk)]
    by_cases hb : an (ga_bad A B i w th rest) k = true
    · rw [if_pos hb, if_pos (show zI 0 = 0 from rfl)]
      exact Or.inr ⟨_, rfl, by rw [if_pos (an_mono (by omega) hb)]⟩
    · rw [if_neg hb, if_neg (by decide)]
      refine Or.inl ⟨(zI (if an (ga_bad A B i w th rest) (k + 1) = true then 0 else 1), zI ((k + 1 : Nat) : Int)), ?_, rfl⟩
      have hb' : an (ga_bad A B i w th rest) k = false := by simpa using hb
      have hn : an (ga_bad A B i w th rest) (k + 1) = ga_bad A B i w th rest k := by rw [an_suc, hb', Bool.false_or]
      rw [hn]
      by_cases e : k = i
      · subst e
        rw [if_pos rfl, xo_nm_b, zI_suc, if_neg (by unfold ga_bad; simp)]
      · rw [if_neg (by rw [zI_eq (zB_n (by omega)) (zB_n (by omega))]; omega), e_mhas th hth k (by omega), Option.bind_some]
        by_cases ht : th.testBit k = true
        · rw [if_pos ht, if_neg (by decide)]
          have hm : ∀ v : Int32, v = zI (if w then 1 else 0) → F_Mod_isAbout_m79 (zI (th : Int)) (zI (rest : Int)) (zI (n : Int)) (zI (i : Int)) (zI (if w then 1 else 0)) (zI 1) (zI (k : Int)) (zI (k : Int)) (zI (i : Int)) v st = some (Sum.inl (zI (if ga_bad A B i w th rest k = true then 0 else 1), zI ((k + 1 : Nat) : Int))) := by
            rintro v rfl
            unfold F_Mod_isAbout_m79 F_Mod_isAbout_m90
            rw [e_malong h hk hi w, Option.bind_some, e_mhas rest hr k (by omega), Option.bind_some, xo_nm_b, xo_nm_b, zI_suc]
            by_cases hp : 0 < (if w then -1 else 1) * gz_t A B (A i) (B i) k
            · rw [if_neg (fun z => sg3_le.mp z hp)]
              by_cases hq : rest.testBit k = true
              · rw [if_pos hq, Option.bind_some, if_pos (show (1 : Int32) = zI 1 from rfl), if_neg (by unfold ga_bad; simp [hp, hq])]
              · rw [if_neg hq, Option.bind_some, if_neg (show ¬ (1 : Int32) = zI 0 by decide), if_pos (by unfold ga_bad; simp [hp, hq, ht, e])]; rfl
            · rw [if_pos (sg3_le.mpr hp)]
              by_cases hq : rest.testBit k = true
              · rw [if_pos hq, if_neg (by decide), if_pos (by unfold ga_bad; simp [hp, hq, ht, e])]; rfl
              · rw [if_neg hq, if_pos (show (0 : Int32) = zI 0 from rfl), if_neg (by unfold ga_bad; simp [hp, hq])]
          cases w with
          | true => rw [if_pos (show zI (if true = true then 1 else 0) = 1 from rfl)]; exact hm _ rfl
          | false => rw [if_neg (show ¬ zI (if false = true then 1 else 0) = 1 by decide)]; exact hm _ rfl
        · rw [if_neg ht, if_pos (show zI 0 = 0 from rfl), xo_nm_b, zI_suc, if_neg (by unfold ga_bad; simp [ht])]
  · rintro q rfl
    dsimp only
    unfold F_Mod_isAbout_b36
    rw [if_pos (zI_rfl _)]
    exact ⟨_, rfl, rfl⟩
theorem e_about {st : XS} {n : Nat} {A B C : Nat → Int} (h : mL st n A B C) {th rest : Nat} (hth : th < 128) (hr : rest < 128) : F_Mod_isAbout (zI (th : Int)) (zI (rest : Int)) (zI (n : Int)) st = some (zI (if an (ga_ok A B n th rest) n = true then 1 else 0)) := by
  have h7 := h.1
  unfold F_Mod_isAbout
  rw [lp_find (ga_ok A B n th rest) (.inl ()) (.inr ()) n (by omega) (fun k hk => ?_) ?_]
  · rw [Option.bind_some]
    split <;> rfl
  · unfold F_Mod_isAbout_b3
    rw [if_pos (zI_rfl _)]
  · unfold F_Mod_isAbout_b3
    rw [if_neg (zI_ge1 (by omega) hk), e_mhas th hth k (by omega), Option.bind_some]
    by_cases ht : th.testBit k = true
    · rw [if_pos ht, if_neg (by decide)]
      rw [lp_find (fun w => !(an (ga_bad A B k (decide (w = 1)) th rest) n)) (.inl ()) (.inr ()) 2 (by omega) (fun w hw => ?_) ?_]
      · rw [Option.bind_some, xo_nm_b, zI_suc]
        have e : an (fun w => !(an (ga_bad A B k (decide (w = 1)) th rest) n)) 2 = ga_ok A B n th rest k := by
          unfold ga_ok
          rw [ht, an_suc, an_suc]
          simp [an]
        rw [e]
        split <;> rfl
      · unfold F_Mod_isAbout_b24
        rw [if_pos (show (2 : Int32) ≤ zI ((2 : Nat) : Int) by decide)]
      · unfold F_Mod_isAbout_b24
        have hw2 : zI (w : Int) = zI (if decide (w = 1) then 1 else 0) := by
          rcases (show w = 0 ∨ w = 1 by omega) with rfl | rfl <;> rfl
        rw [if_neg (by rw [show (2 : Int32) = zI ((2 : Nat) : Int) from rfl]; exact zI_ge1 (by omega) hw)]
        have h1 := e_about1 h hth hr hk (decide (w = 1))
        rw [← hw2] at h1
        rw [h1, Option.bind_some, xo_nm_b, zI_suc]
        cases an (ga_bad A B k (decide (w = 1)) th rest) n
        · rw [if_neg (show ¬ zI (if false = true then 0 else 1) = 0 by decide), if_pos (show (!false) = true from rfl)]
        · rw [if_pos (show zI (if true = true then 0 else 1) = 0 from rfl), if_neg (show ¬ (!true) = true by decide)]
    · rw [if_neg ht, if_pos (show zI 0 = 0 from rfl), xo_nm_b, zI_suc, if_neg (by unfold ga_ok; simp [ht])]
end
section
/-! which quarters the reference counts at a point -/
def gy_t (A B C : Nat → Int) (n i j : Nat) : Nat := bm (fun s => decide (gz_p A B C i j s = 0)) n
def gy_f (A B C : Nat → Int) (n i j : Nat) : Nat := bm (fun s => decide (0 < gz_p A B C i j s)) n
theorem ga_ok_iff {A B C : Nat → Int} {n i j q : Nat} : an (ga_ok A B n (gy_t A B C n i j) q) n = true ↔ gz_abt A B C n i j q := by
  rw [an_iff]
  have hth : ∀ s, s < n → ((gy_t A B C n i j).testBit s = true ↔ gz_p A B C i j s = 0) := fun s hs => by
    unfold gy_t; rw [bm_tb]; simp [hs]
  have hw : ∀ (k : Nat) (w : Bool), (!(an (ga_bad A B k w (gy_t A B C n i j) q) n)) = true ↔ ∀ t, t < n → t ≠ k → gz_p A B C i j t = 0 → (q.testBit t = true ↔ 0 < (if w then -1 else 1) * gz_t A B (A k) (B k) t) := by
    intro k w
    rw [Bool.not_eq_true', Bool.eq_false_iff, Ne, an_iff]
    constructor
    · intro h t ht htk htz
      have h1 : ¬ ga_bad A B k w (gy_t A B C n i j) q t = true := fun z => h ⟨t, ht, z⟩
      unfold ga_bad at h1
      rw [(hth t ht).mpr htz] at h1
      by_cases hp : 0 < (if w = true then -1 else 1) * gz_t A B (A k) (B k) t
      · rw [decide_eq_true hp, decide_eq_true htk] at h1
        cases hq : q.testBit t with
        | true => exact ⟨fun _ => hp, fun _ => rfl⟩
        | false => rw [hq] at h1; exact absurd rfl h1
      · rw [decide_eq_false hp, decide_eq_true htk] at h1
        cases hq : q.testBit t with
        | true => rw [hq] at h1; exact absurd rfl h1
        | false => exact ⟨fun z => (by cases z), fun z => absurd z hp⟩
    · rintro h ⟨t, ht, hb⟩
      unfold ga_bad at hb
      rw [Bool.and_eq_true, Bool.and_eq_true, decide_eq_true_eq, hth t ht] at hb
      obtain ⟨⟨h1, h2⟩, h3⟩ := hb
      have h4 := h t ht h1 h2
      by_cases hp : 0 < (if w = true then -1 else 1) * gz_t A B (A k) (B k) t
      · rw [decide_eq_true hp, h4.mpr hp] at h3; cases h3
      · rw [decide_eq_false hp] at h3
        cases hq : q.testBit t with
        | true => exact hp (h4.mp hq)
        | false => rw [hq] at h3; cases h3
  constructor
  · rintro ⟨k, hk, h⟩
    unfold ga_ok at h
    rw [Bool.and_eq_true, Bool.or_eq_true, hth k hk, hw, hw] at h
    obtain ⟨h1, h2 | h2⟩ := h
    · exact ⟨k, hk, h1, 1, Or.inl rfl, fun t ht htk hz => by simpa using h2 t ht htk hz⟩
    · exact ⟨k, hk, h1, -1, Or.inr rfl, fun t ht htk hz => by simpa using h2 t ht htk hz⟩
  · rintro ⟨k, hk, hz, g, hg, h⟩
    refine ⟨k, hk, ?_⟩
    unfold ga_ok
    rw [Bool.and_eq_true, Bool.or_eq_true, hth k hk, hw, hw]
    refine ⟨hz, ?_⟩
    rcases hg with rfl | rfl
    · exact Or.inl (fun t ht htk hz => by simpa using h t ht htk hz)
    · exact Or.inr (fun t ht htk hz => by simpa using h t ht htk hz)
theorem gz_abt_cong {A B C : Nat → Int} {n i j q r : Nat} (h : ∀ t, t < n → gz_p A B C i j t = 0 → q.testBit t = r.testBit t) : gz_abt A B C n i j q ↔ gz_abt A B C n i j r := by
  constructor
  · rintro ⟨k, hk, hz, g, hg, hh⟩
    exact ⟨k, hk, hz, g, hg, fun t ht htk hz => by rw [← h t ht hz]; exact hh t ht htk hz⟩
  · rintro ⟨k, hk, hz, g, hg, hh⟩
    exact ⟨k, hk, hz, g, hg, fun t ht htk hz => by rw [h t ht hz]; exact hh t ht htk hz⟩
def gy_h (A B C : Nat → Int) (n i j q : Nat) : Bool := decide (q = gy_f A B C n i j ||| (q &&& gy_t A B C n i j)) && an (ga_ok A B n (gy_t A B C n i j) (q &&& gy_t A B C n i j)) n
theorem gy_t_b (A B C : Nat → Int) (n i j s : Nat) : (gy_t A B C n i j).testBit s = (decide (s < n) && decide (gz_p A B C i j s = 0)) := bm_tb _ n s
theorem gy_f_b (A B C : Nat → Int) (n i j s : Nat) : (gy_f A B C n i j).testBit s = (decide (s < n) && decide (0 < gz_p A B C i j s)) := bm_tb _ n s
theorem gy_h_iff {A B C : Nat → Int} {n i j q : Nat} : gy_h A B C n i j q = true ↔ q < 2 ^ n ∧ gz_agr A B C n i j q ∧ gz_abt A B C n i j q := by
  unfold gy_h
  rw [Bool.and_eq_true, decide_eq_true_eq, ga_ok_iff]
  have hc : gz_abt A B C n i j (q &&& gy_t A B C n i j) ↔ gz_abt A B C n i j q := gz_abt_cong (fun t ht hz => by
    rw [Nat.testBit_and, gy_t_b, decide_eq_true ht, decide_eq_true hz]; simp)
  rw [hc]
  constructor
  · rintro ⟨h1, h2⟩
    have hb : ∀ s, q.testBit s = ((gy_f A B C n i j).testBit s || (q.testBit s && (gy_t A B C n i j).testBit s)) := fun s => by
      have := congrArg (fun m => m.testBit s) h1
      simpa only [Nat.testBit_or, Nat.testBit_and] using this
    refine ⟨?_, fun t ht hz => ?_, h2⟩
    · apply Nat.lt_pow_two_of_testBit
      intro s hs
      have h3 : ¬ s < n := by omega
      rw [hb s, gy_f_b, gy_t_b, decide_eq_false h3]; simp
    · have h3 := hb t
      rw [gy_f_b, gy_t_b, decide_eq_true ht, decide_eq_false hz] at h3
      simp at h3
      rw [h3, decide_eq_true_eq]
  · rintro ⟨h1, h2, h3⟩
    refine ⟨?_, h3⟩
    apply Nat.eq_of_testBit_eq
    intro s
    rw [Nat.testBit_or, Nat.testBit_and, gy_f_b, gy_t_b]
    by_cases hs : s < n
    · by_cases hz : gz_p A B C i j s = 0
      · simp [hs, hz]
      · have h4 := h2 s hs hz
        rw [decide_eq_true hs, decide_eq_false hz]
        cases hq : q.testBit s with
        | true => simp [h4.mp hq]
        | false =>
          have : ¬ 0 < gz_p A B C i j s := fun z => by rw [h4.mpr z] at hq; cases hq
          simp [this]
    · have h4 : q.testBit s = false := Nat.testBit_lt_two_pow (Nat.lt_of_lt_of_le h1 (Nat.pow_le_pow_right (by decide) (by omega)))
      simp [hs, h4]
/-- what the reference's corner[] holds: 0, or 1 and the corners -/
def gy_v (e : Bool) (k : Nat) : Nat := if k = 0 then (if e then 1 else 0) else k + 1
theorem gy_v_suc (e : Bool) (k : Nat) : (if 1 < gy_v e k then gy_v e k else 1) + 1 = gy_v e (k + 1) := by
  unfold gy_v
  cases e <;> by_cases h : k = 0 <;> simp [h] <;> omega
theorem gy_v_0 (e : Bool) : gy_v e 0 = if e then 1 else 0 := rfl
theorem gy_v_pos (e : Bool) (k : Nat) : 0 < gy_v e k ↔ e = true ∨ 0 < k := by
  unfold gy_v
  cases e <;> by_cases h : k = 0 <;> simp [h] <;> omega
theorem gy_v_le (e : Bool) (k : Nat) : gy_v e k ≤ k + 1 := by
  unfold gy_v
  cases e <;> by_cases h : k = 0 <;> simp [h]
def lU (st t : XS) : Prop := t.2 = st.2 ∧ (∀ k, k ≠ 0 → k ≠ 18 → k ≠ 19 → t.1 k = st.1 k) ∧ ∀ j, j < 20 → t.1 0 j = st.1 0 j
theorem lU_rfl (st : XS) : lU st st := ⟨rfl, fun _ _ _ _ => rfl, fun _ _ => rfl⟩
theorem lU_trans {a b c : XS} (h : lU a b) (g : lU b c) : lU a c := ⟨g.1.trans h.1, fun k h0 h1 h2 => (g.2.1 k h0 h1 h2).trans (h.2.1 k h0 h1 h2), fun j hj => (g.2.2 j hj).trans (h.2.2 j hj)⟩
theorem mL_u {st t : XS} {n : Nat} {A B C : Nat → Int} (h : mL st n A B C) (e : lU st t) : mL t n A B C := mL_of h (e.2.1 2 (by decide) (by decide) (by decide)) (e.2.1 3 (by decide) (by decide) (by decide)) (e.2.1 4 (by decide) (by decide) (by decide))
def yS (st t : XS) (E : Nat → Bool) (K : Nat → Nat) (p s m : Nat) : Prop := lU st t ∧ (∀ q, q < 128 → t.1 18 q = zI ((gy_v (E q) (K q) : Nat) : Int) ∧ t.1 19 q = zI (if E q then 1 else 0)) ∧ t.1 0 20 = zI (p : Int) ∧ t.1 0 21 = zI (s : Int) ∧ t.1 0 22 = zI (m : Int)
end
section
/-! lay: all put out, then the ends of the lines -/
theorem nar_0 : vp_nar .boolean (0 : Int32) = zI 0 := rfl
theorem nar_1 : vp_nar .boolean (1 : Int32) = zI 1 := rfl
theorem yS_u {st t : XS} {E : Nat → Bool} {K : Nat → Nat} {p s m : Nat} (h : yS st t E K p s m) : lU st t := h.1
theorem yS_cong {st t : XS} {E E2 : Nat → Bool} {K K2 : Nat → Nat} {p s m : Nat} (h : yS st t E K p s m) (e1 : ∀ q, q < 128 → E q = E2 q) (e2 : ∀ q, q < 128 → K q = K2 q) : yS st t E2 K2 p s m := by
  refine ⟨h.1, fun q hq => ?_, h.2.2⟩
  rw [← e1 q hq, ← e2 q hq]; exact h.2.1 q hq
theorem yS_put {st t : XS} {E : Nat → Bool} {p s m : Nat} (h : yS st t E (fun _ => 0) p s m) (v : Nat) : yS st (xs_A (xs_A t 18 (upd (t.1 18) v (1 : Int32))) 19 (upd (t.1 19) v (zI 1))) (fun q => E q || decide (q = v)) (fun _ => 0) p s m := by
  obtain ⟨h1, h2, h3, h4, h5⟩ := h
  refine ⟨lU_trans h1 ⟨rfl, fun k h0 h18 h19 => by simp [xs_A, h18, h19], fun j hj => by simp [xs_A]⟩, fun q hq => ?_, ?_, ?_, ?_⟩
  · obtain ⟨g1, g2⟩ := h2 q hq
    by_cases e : q = v
    · subst e
      simp [xs_A, upd, gy_v]; rfl
    · simp [xs_A, upd, e, g1, g2]
  · simpa [xs_A] using h3
  · simpa [xs_A] using h4
  · simpa [xs_A] using h5
theorem shl_own : ∀ o, o < 2 → ∀ i, i < 7 → zI ((o : Nat) : Int) <<< (zI ((i : Nat) : Int) &&& 31) = zI ((o * 2 ^ i : Nat) : Int) := by decide +kernel
def gy_b (A B : Nat → Int) (n i : Nat) (w : Bool) : Nat := bm (fun s => decide (0 < (if w then -1 else 1) * gz_t A B (A i) (B i) s)) n
def gy_E1 (A B : Nat → Int) (n i : Nat) (w : Bool) (k q : Nat) : Bool := an (fun o => decide (q = gy_b A B n i w ||| o * 2 ^ i)) k
def gy_E2 (A B : Nat → Int) (n i k q : Nat) : Bool := an (fun w => gy_E1 A B n i (decide (w = 1)) 2 q) k
def gy_E (A B : Nat → Int) (n k q : Nat) : Bool := (decide (n = 0) && decide (q = 0)) || an (fun i => gy_E2 A B n i 2 q) k
theorem p2_128 {n : Nat} (h : n ≤ 7) : 2 ^ n ≤ 128 := (Nat.pow_le_pow_right (n := 2) (by decide) h : 2 ^ n ≤ 2 ^ 7)
theorem lo_128 {n i o b : Nat} (h7 : n ≤ 7) (hi : i < n) (ho : o < 2) (hb : b < 2 ^ n) : b ||| o * 2 ^ i < 128 := by
  have h1 : o * 2 ^ i < 2 ^ n := by
    have : 2 ^ i < 2 ^ n := Nat.pow_lt_pow_right (by decide) hi
    rcases (show o = 0 ∨ o = 1 by omega) with rfl | rfl <;> omega
  exact Nat.lt_of_lt_of_le (Nat.or_lt_two_pow hb h1) (p2_128 h7)
theorem e_lay_bits {st : XS} {n : Nat} {A B C : Nat → Int} (h : mL st n A B C) {i : Nat} (hi : i < n) (w : Bool) : xo_lp (fun q : (Int32 × Int32) => F_Mod_lay_b82 (zI (n : Int)) (zI (i : Int)) (zI (if w then 1 else 0)) st q.1 q.2) 1000000 ((0 : Int32), (0 : Int32)) = some (zI ((gy_b A B n i w : Nat) : Int)) := by
  have h7 := h.1
  unfold gy_b
  refine lp_run (fun k => (zI ((bm (fun s => decide (0 < (if w then -1 else 1) * gz_t A B (A i) (B i) s)) k : Nat) : Int), zI (k : Int))) n 1000000 (by omega) (fun k hk => ?_) ?_
  · unfold F_Mod_lay_b82
    dsimp only
    rw [if_neg (zI_ge1 (by omega) hk)]
    by_cases e : k = i
    · subst e
      rw [if_pos rfl, xo_nm_b, zI_suc, bm_suc_f (by rw [gz_t_self]; simp)]
    · rw [if_neg (by rw [zI_eq (zB_n (by omega)) (zB_n (by omega))]; omega)]
      have hm : ∀ v : Int32, v = zI (if w then 1 else 0) → F_Mod_lay_m108 (zI (n : Int)) (zI (i : Int)) (zI (if w then 1 else 0)) (zI ((bm (fun s => decide (0 < (if w then -1 else 1) * gz_t A B (A i) (B i) s)) k : Nat) : Int)) (zI (k : Int)) (zI (k : Int)) (zI (i : Int)) v st = some (Sum.inl (zI ((bm (fun s => decide (0 < (if w then -1 else 1) * gz_t A B (A i) (B i) s)) (k + 1) : Nat) : Int), zI ((k + 1 : Nat) : Int))) := by
        rintro v rfl
        unfold F_Mod_lay_m108
        rw [e_malong h hk hi w, Option.bind_some]
        by_cases hp : 0 < (if w then -1 else 1) * gz_t A B (A i) (B i) k
        · rw [if_neg (fun z => sg3_le.mp z hp), xo_nm_b, xo_nm_b, zI_suc, bm_suc_t (by omega) (decide_eq_true hp)]
        · rw [if_pos (sg3_le.mpr hp), xo_nm_b, zI_suc, bm_suc_f (decide_eq_false hp)]
      cases w with
      | true => rw [if_pos (show zI (if true = true then 1 else 0) = 1 from rfl)]; exact hm _ rfl
      | false => rw [if_neg (show ¬ zI (if false = true then 1 else 0) = 1 by decide)]; exact hm _ rfl
  · unfold F_Mod_lay_b82
    dsimp only
    rw [if_pos (zI_rfl _)]
theorem e_lay_own {st t : XS} {n : Nat} {A B : Nat → Int} {E : Nat → Bool} {p s m : Nat} (h7 : n ≤ 7) (h : yS st t E (fun _ => 0) p s m) {i : Nat} (hi : i < n) (w : Bool) (x1 x3 : Int32) : ∃ r, xo_lp (fun q : (Int32 × XS) => F_Mod_lay_b132 x1 (zI (i : Int)) x3 (zI ((gy_b A B n i w : Nat) : Int)) q.1 q.2) 1000000 ((0 : Int32), t) = some r ∧ yS st r (fun q => E q || gy_E1 A B n i w 2 q) (fun _ => 0) p s m := by
  refine lp_inv (fun (k : Nat) (x : Int32 × XS) => x.1 = zI (k : Int) ∧ yS st x.2 (fun q => E q || gy_E1 A B n i w k q) (fun _ => 0) p s m) _ 2 1000000 _ (by omega) ⟨rfl, yS_cong h (fun q _ => by unfold gy_E1; simp [an]) (fun _ _ => rfl)⟩ ?_ ?_
  · rintro k ⟨x, t2⟩ hk ⟨e1, e2⟩
    dsimp only at e1 e2 ⊢
    subst e1
    unfold F_Mod_lay_b132
    have hlt := lo_128 h7 hi hk (bm_lt (fun s => decide (0 < (if w then -1 else 1) * gz_t A B (A i) (B i) s)) n)
    have hb : gy_b A B n i w ||| k * 2 ^ i < 128 := hlt
    rw [if_neg (by rw [show (2 : Int32) = zI ((2 : Nat) : Int) from rfl]; exact zI_ge1 (by omega) hk), shl_own k hk i (by omega), zI_or, xo_nm_b, xo_ck_z hb (by decide), Option.bind_some, xo_nm_b, Option.bind_some, xo_nm_b, xo_nm_b, zI_suc, zI_cl (by omega), nar_1]
    refine ⟨_, rfl, rfl, ?_⟩
    have h3 := yS_put e2 (gy_b A B n i w ||| k * 2 ^ i)
    have e5 : (xs_A t2 18 (upd (t2.1 18) (gy_b A B n i w ||| k * 2 ^ i) 1)).1 19 = t2.1 19 := by simp [xs_A]
    rw [e5]
    refine yS_cong h3 (fun q _ => ?_) (fun _ _ => rfl)
    unfold gy_E1
    rw [an_suc, Bool.or_assoc]
  · rintro ⟨x, t2⟩ ⟨e1, e2⟩
    dsimp only at e1 e2 ⊢
    subst e1
    unfold F_Mod_lay_b132
    rw [if_pos (show (2 : Int32) ≤ zI ((2 : Nat) : Int) by decide)]
    exact ⟨_, rfl, e2⟩
theorem e_lay_way {st t : XS} {n : Nat} {A B C : Nat → Int} {E : Nat → Bool} {p s m : Nat} (hm : mL st n A B C) (h : yS st t E (fun _ => 0) p s m) {i : Nat} (hi : i < n) : ∃ r, xo_lp (fun q : (Int32 × XS) => F_Mod_lay_b71 (zI (n : Int)) (zI (i : Int)) q.1 q.2) 1000000 ((0 : Int32), t) = some r ∧ yS st r (fun q => E q || gy_E2 A B n i 2 q) (fun _ => 0) p s m := by
  refine lp_inv (fun (k : Nat) (x : Int32 × XS) => x.1 = zI (k : Int) ∧ yS st x.2 (fun q => E q || gy_E2 A B n i k q) (fun _ => 0) p s m) _ 2 1000000 _ (by omega) ⟨rfl, yS_cong h (fun q _ => by unfold gy_E2; simp [an]) (fun _ _ => rfl)⟩ ?_ ?_
  · rintro k ⟨x, t2⟩ hk ⟨e1, e2⟩
    dsimp only at e1 e2 ⊢
    subst e1
    unfold F_Mod_lay_b71
    have hw2 : zI (k : Int) = zI (if decide (k = 1) then 1 else 0) := by
      rcases (show k = 0 ∨ k = 1 by omega) with rfl | rfl <;> rfl
    have h1 := e_lay_bits (mL_u hm e2.1) hi (decide (k = 1))
    rw [← hw2] at h1
    obtain ⟨r, h2, h3⟩ := e_lay_own (A := A) (B := B) hm.1 e2 hi (decide (k = 1)) (zI (n : Int)) (zI (k : Int))
    rw [if_neg (by rw [show (2 : Int32) = zI ((2 : Nat) : Int) from rfl]; exact zI_ge1 (by omega) hk), h1, Option.bind_some, h2, Option.bind_some, xo_nm_b, zI_suc]
    refine ⟨_, rfl, rfl, yS_cong h3 (fun q _ => ?_) (fun _ _ => rfl)⟩
    unfold gy_E2
    rw [an_suc, Bool.or_assoc]
  · rintro ⟨x, t2⟩ ⟨e1, e2⟩
    dsimp only at e1 e2 ⊢
    subst e1
    unfold F_Mod_lay_b71
    rw [if_pos (show (2 : Int32) ≤ zI ((2 : Nat) : Int) by decide)]
    exact ⟨_, rfl, e2⟩
theorem e_lay_ends {st t : XS} {n : Nat} {A B C : Nat → Int} {p s m : Nat} (hm : mL st n A B C) (h : yS st t (gy_E A B n 0) (fun _ => 0) p s m) : ∃ r, xo_lp (fun q : (Int32 × XS) => F_Mod_lay_b64 (zI (n : Int)) q.1 q.2) 1000000 ((0 : Int32), t) = some r ∧ yS st r (gy_E A B n n) (fun _ => 0) p s m := by
  have h7 := hm.1
  refine lp_inv (fun (k : Nat) (x : Int32 × XS) => x.1 = zI (k : Int) ∧ yS st x.2 (gy_E A B n k) (fun _ => 0) p s m) _ n 1000000 _ (by omega) ⟨rfl, h⟩ ?_ ?_
  · rintro k ⟨x, t2⟩ hk ⟨e1, e2⟩
    dsimp only at e1 e2 ⊢
    subst e1
    unfold F_Mod_lay_b64
    obtain ⟨r, h2, h3⟩ := e_lay_way hm e2 hk
    rw [if_neg (zI_ge1 (by omega) hk), h2, Option.bind_some, xo_nm_b, zI_suc]
    refine ⟨_, rfl, rfl, yS_cong h3 (fun q _ => ?_) (fun _ _ => rfl)⟩
    unfold gy_E
    rw [an_suc, Bool.or_assoc]
  · rintro ⟨x, t2⟩ ⟨e1, e2⟩
    dsimp only at e1 e2 ⊢
    subst e1
    unfold F_Mod_lay_b64
    rw [if_pos (zI_rfl _)]
    exact ⟨_, rfl, e2⟩
theorem e_lay_zero {st t : XS} (h : lU st t) (hp : t.1 0 20 = zI 0) (hs : t.1 0 21 = zI 0) (hm : t.1 0 22 = zI 0) (x1 : Int32) : ∃ r, xo_lp (fun q : (Int32 × XS) => F_Mod_lay_b17 x1 q.1 q.2) 1000000 ((0 : Int32), t) = some r ∧ yS st r (fun _ => false) (fun _ => 0) 0 0 0 := by
  refine lp_inv (fun (k : Nat) (x : Int32 × XS) => x.1 = zI (k : Int) ∧ lU st x.2 ∧ (∀ q, q < k → x.2.1 18 q = zI 0 ∧ x.2.1 19 q = zI 0) ∧ x.2.1 0 20 = zI 0 ∧ x.2.1 0 21 = zI 0 ∧ x.2.1 0 22 = zI 0) _ 128 1000000 _ (by omega) ⟨rfl, h, fun q hq => absurd hq (Nat.not_lt_zero q), hp, hs, hm⟩ ?_ ?_
  · rintro k ⟨x, t2⟩ hk ⟨e1, e2, e3, e4, e5, e6⟩
    dsimp only at e1 e2 e3 e4 e5 e6 ⊢
    subst e1
    unfold F_Mod_lay_b17
    rw [if_neg (by rw [show (128 : Int32) = zI ((128 : Nat) : Int) from rfl]; exact zI_ge1 (by omega) hk), xo_ck_z hk (by decide), Option.bind_some, xo_nm_b, Option.bind_some, xo_nm_b, xo_nm_b, zI_suc, zI_cl (by omega), nar_0]
    refine ⟨_, rfl, rfl, lU_trans e2 ⟨rfl, fun k h0 h18 h19 => by simp [xs_A, h18, h19], fun j hj => by simp [xs_A]⟩, fun q hq => ?_, by simpa [xs_A] using e4, by simpa [xs_A] using e5, by simpa [xs_A] using e6⟩
    by_cases e : q = k
    · subst e
      simp [xs_A, upd]; rfl
    · simpa [xs_A, upd, e] using e3 q (by omega)
  · rintro ⟨x, t2⟩ ⟨e1, e2, e3, e4, e5, e6⟩
    dsimp only at e1 e2 e3 e4 e5 e6 ⊢
    subst e1
    unfold F_Mod_lay_b17
    rw [if_pos (show (128 : Int32) ≤ zI ((128 : Nat) : Int) by decide)]
    exact ⟨_, rfl, e2, fun q hq => e3 q hq, e4, e5, e6⟩
end
section
/-! lay: the points -/
def fS (f : Nat → Nat → Nat) (j i : Nat) : Nat := fb_sm (fun j' => fb_sm (fun i' => f i' j') j') j + fb_sm (fun i' => f i' j) i
theorem fS_i (f : Nat → Nat → Nat) (j i : Nat) : fS f j (i + 1) = fS f j i + f i j := by unfold fS; rw [fb_sm_succ]; omega
theorem fS_j (f : Nat → Nat → Nat) (j : Nat) : fS f (j + 1) 0 = fS f j j := by unfold fS; rw [fb_sm_succ]; rfl
theorem fb_sm_bd {f : Nat → Nat} {c : Nat} : ∀ {n : Nat}, (∀ k, k < n → f k ≤ c) → fb_sm f n ≤ c * n
  | 0, _ => Nat.le_refl _
  | n + 1, h => by
    have h1 := fb_sm_bd (f := f) (c := c) (n := n) (fun k hk => h k (by omega))
    have h2 := h n (by omega)
    rw [fb_sm_succ, Nat.mul_succ]; omega
theorem fS_bd {f : Nat → Nat → Nat} (h : ∀ i j, f i j ≤ 1) {j i : Nat} (hj : j ≤ 7) (hi : i ≤ 7) : fS f j i ≤ 56 := by
  have h1 : fb_sm (fun j' => fb_sm (fun i' => f i' j') j') j ≤ 7 * j := fb_sm_bd (fun k hk => by
    have : fb_sm (fun i' => f i' k) k ≤ 1 * k := fb_sm_bd (fun i _ => h i k)
    omega)
  have h2 : fb_sm (fun i' => f i' j) i ≤ 1 * i := fb_sm_bd (fun i _ => h i j)
  unfold fS; omega
def rM (g : Nat → Nat) (b : Nat) : Nat → Nat
  | 0 => b
  | i + 1 => if rM g b i < g i then g i else rM g b i
theorem rM_suc (g : Nat → Nat) (b i : Nat) : rM g b (i + 1) = if rM g b i < g i then g i else rM g b i := rfl
def gM (f : Nat → Nat → Nat) : Nat → Nat
  | 0 => 0
  | j + 1 => rM (fun i => f i j) (gM f j) j
theorem gM_suc (f : Nat → Nat → Nat) (j : Nat) : gM f (j + 1) = rM (fun i => f i j) (gM f j) j := rfl
theorem rM_le {g : Nat → Nat} {b m : Nat} : ∀ {i : Nat}, rM g b i ≤ m ↔ b ≤ m ∧ ∀ k, k < i → g k ≤ m
  | 0 => ⟨fun h => ⟨h, fun k hk => absurd hk (Nat.not_lt_zero k)⟩, fun h => h.1⟩
  | i + 1 => by
    have h := rM_le (g := g) (b := b) (m := m) (i := i)
    rw [rM_suc]
    constructor
    · intro hm
      have h1 := h.mp (by split at hm <;> omega)
      refine ⟨h1.1, fun k hk => ?_⟩
      by_cases e : k = i
      · subst e; split at hm <;> omega
      · exact h1.2 k (by omega)
    · rintro ⟨h1, h2⟩
      have h3 := h.mpr ⟨h1, fun k hk => h2 k (by omega)⟩
      have h4 := h2 i (by omega)
      split <;> omega
theorem gM_le {f : Nat → Nat → Nat} {m : Nat} : ∀ {n : Nat}, gM f n ≤ m ↔ ∀ j, j < n → ∀ i, i < j → f i j ≤ m
  | 0 => ⟨fun _ k hk => absurd hk (Nat.not_lt_zero k), fun _ => Nat.zero_le m⟩
  | n + 1 => by
    rw [gM_suc, rM_le, gM_le]
    constructor
    · rintro ⟨h1, h2⟩ j hj i hi
      by_cases e : j = n
      · subst e; exact h2 i hi
      · exact h1 j (by omega) i hi
    · intro h
      exact ⟨fun j hj => h j (by omega), fun i hi => h n (by omega) i hi⟩
def yf_1 (A B C : Nat → Int) (i j : Nat) : Nat := if gp_f A B C i j = true then 1 else 0
def yf_s (A B C : Nat → Int) (n i j : Nat) : Nat := if gp_f A B C i j = true then (if 3 ≤ gp_th A B C n (i, j) then 1 else 0) else 0
def yf_m (A B C : Nat → Int) (n i j : Nat) : Nat := if gp_f A B C i j = true then gp_th A B C n (i, j) else 0
def yf_k (A B C : Nat → Int) (n q i j : Nat) : Nat := if gp_f A B C i j = true then (if gy_h A B C n i j q = true then 1 else 0) else 0
theorem yf_k_le (A B C : Nat → Int) (n q i j : Nat) : yf_k A B C n q i j ≤ 1 := by
  unfold yf_k; split
  · split <;> omega
  · omega
theorem yf_m_le (A B C : Nat → Int) (n i j : Nat) : yf_m A B C n i j ≤ n := by
  have := gp_th_le A B C n (i, j)
  unfold yf_m; split <;> omega
theorem zI_128 : (128 : Int32) = zI ((128 : Nat) : Int) := rfl
theorem gy_t_lt {A B C : Nat → Int} {n : Nat} (h7 : n ≤ 7) (i j : Nat) : gy_t A B C n i j < 128 := Nat.lt_of_lt_of_le (bm_lt _ n) (p2_128 h7)
theorem gy_f_lt {A B C : Nat → Int} {n : Nat} (h7 : n ≤ 7) (i j : Nat) : gy_f A B C n i j < 128 := Nat.lt_of_lt_of_le (bm_lt _ n) (p2_128 h7)
theorem e_lay_tf {st : XS} {n : Nat} {A B C : Nat → Int} (h : mL st n A B C) {i j : Nat} (hi : i < n) (hj : j < n) : xo_lp (fun q : (Int32 × Int32 × Int32) => F_Mod_lay_b226 (zI (n : Int)) (zI (j : Int)) (zI (i : Int)) st q.1 q.2.1 q.2.2) 1000000 ((0 : Int32), (0 : Int32), (0 : Int32)) = some (zI ((gy_t A B C n i j : Nat) : Int), zI ((gy_f A B C n i j : Nat) : Int)) := by
  have h7 := h.1
  unfold gy_t gy_f
  refine lp_run (fun k => (zI ((bm (fun s => decide (gz_p A B C i j s = 0)) k : Nat) : Int), zI ((bm (fun s => decide (0 < gz_p A B C i j s)) k : Nat) : Int), zI (k : Int))) n 1000000 (by omega) (fun k hk => ?_) ?_
  · unfold F_Mod_lay_b226 F_Mod_lay_m256
    dsimp only
    rw [if_neg (zI_ge1 (by omega) hk), e_msoc h hk hi hj, Option.bind_some]
    by_cases hz : gz_p A B C i j k = 0
    · rw [if_pos (sg3_z.mpr hz), xo_nm_b, if_pos (sg3_le.mpr (by omega)), xo_nm_b, zI_suc, bm_suc_t (by omega) (decide_eq_true hz), bm_suc_f (P := fun s => decide (0 < gz_p A B C i j s)) (decide_eq_false (by omega))]
    · rw [if_neg (fun z => hz (sg3_z.mp z)), bm_suc_f (P := fun s => decide (gz_p A B C i j s = 0)) (decide_eq_false hz)]
      by_cases hp : 0 < gz_p A B C i j k
      · rw [if_neg (fun z => sg3_le.mp z hp), xo_nm_b, xo_nm_b, zI_suc, bm_suc_t (by omega) (decide_eq_true hp)]
      · rw [if_pos (sg3_le.mpr hp), xo_nm_b, zI_suc, bm_suc_f (decide_eq_false hp)]
  · unfold F_Mod_lay_b226
    dsimp only
    rw [if_pos (zI_rfl _)]
/-- the sides about one point -/
theorem yr_sub : ∀ k, k < 128 → ∀ t, t < 128 → ((zI ((k : Nat) : Int) &&& (zI ((t : Nat) : Int) ^^^ (-1 : Int32)) = (0 : Int32)) ↔ k &&& t = k) := by decide +kernel
theorem e_lay_rest {st t : XS} {n : Nat} {A B C : Nat → Int} {E : Nat → Bool} {K : Nat → Nat} {p s m : Nat} (hm : mL st n A B C) (h : yS st t E K p s m) (hK : ∀ q, K q ≤ 10000) {i j : Nat} (x2 x3 : Int32) : ∃ r, xo_lp (fun q : (Int32 × XS) => F_Mod_lay_b315 (zI (n : Int)) x2 x3 (zI ((gy_t A B C n i j : Nat) : Int)) (zI ((gy_f A B C n i j : Nat) : Int)) q.1 q.2) 1000000 ((0 : Int32), t) = some r ∧ yS st r E (fun q => K q + (if gy_h A B C n i j q = true then 1 else 0)) p s m := by
  have h7 := hm.1
  have ht := gy_t_lt (A := A) (B := B) (C := C) h7 i j
  have hf := gy_f_lt (A := A) (B := B) (C := C) h7 i j
  have hft : gy_f A B C n i j &&& gy_t A B C n i j = 0 := by
    apply Nat.eq_of_testBit_eq
    intro u
    rw [Nat.testBit_and, gy_f_b, gy_t_b, Nat.zero_testBit]
    by_cases hz : gz_p A B C i j u = 0
    · simp [hz]
    · simp [hz]
  have hH : ∀ q, gy_h A B C n i j q = (decide (q = gy_f A B C n i j ||| (q &&& gy_t A B C n i j)) && an (ga_ok A B n (gy_t A B C n i j) (q &&& gy_t A B C n i j)) n) := fun q => rfl
  generalize gy_t A B C n i j = th at *
  generalize gy_f A B C n i j = fx at *
  refine lp_inv (fun (k : Nat) (x : Int32 × XS) => x.1 = zI (k : Int) ∧ yS st x.2 E (fun q => K q + (if gy_h A B C n i j q = true ∧ q &&& th < k then 1 else 0)) p s m) _ 128 1000000 _ (by omega) ⟨rfl, yS_cong h (fun _ _ => rfl) (fun q _ => by simp)⟩ ?_ ?_
  · rintro k ⟨x, t2⟩ hk ⟨e1, e2⟩
    dsimp only at e1 e2 ⊢
    subst e1
    unfold F_Mod_lay_b315
    rw [zI_128, if_neg (zI_ge1 (by omega) hk)]
    have hsame : (∀ q, gy_h A B C n i j q = true → q &&& th ≠ k) → yS st t2 E (fun q => K q + (if gy_h A B C n i j q = true ∧ q &&& th < k + 1 then 1 else 0)) p s m := fun hno => by
      refine yS_cong e2 (fun _ _ => rfl) (fun q _ => ?_)
      congr 1
      by_cases hq : gy_h A B C n i j q = true
      · have := hno q hq
        by_cases hl : q &&& th < k
        · rw [if_pos ⟨hq, hl⟩, if_pos ⟨hq, by omega⟩]
        · rw [if_neg (fun z => hl z.2), if_neg (fun z => hl (by omega))]
      · rw [if_neg (fun z => hq z.1), if_neg (fun z => hq z.1)]
    by_cases hs : k &&& th = k
    · rw [if_pos ((yr_sub k hk th ht).mpr hs), e_about (mL_u hm e2.1) ht hk, Option.bind_some]
      by_cases ha : an (ga_ok A B n th k) n = true
      · have hv : fx ||| k < 128 := Nat.or_lt_two_pow (n := 7) hf hk
        have hvt : (fx ||| k) &&& th = k := by
          rw [Nat.and_or_distrib_right, hft, Nat.zero_or, hs]
        have hhv : gy_h A B C n i j (fx ||| k) = true := by
          rw [hH, hvt, ha, decide_eq_true rfl]; rfl
        have hvn : (fun q => K q + (if gy_h A B C n i j q = true ∧ q &&& th < k then 1 else 0)) (fx ||| k) = K (fx ||| k) := by
          dsimp only
          rw [hvt, if_neg (by omega)]; rfl
        obtain ⟨g1, g2⟩ := e2.2.1 (fx ||| k) hv
        rw [hvn] at g1
        have hgl := gy_v_le (E (fx ||| k)) (K (fx ||| k))
        have hkl := hK (fx ||| k)
        rw [if_pos ha, if_neg (by decide), zI_or, xo_nm_b, xo_rd_z hv (by decide), Option.bind_some, xo_ck_z hv (by decide), Option.bind_some, xo_nm_b, xo_nm_b, zI_suc, zI_cl (by omega), g1]
        have hw : (if (1 : Int32) < zI ((gy_v (E (fx ||| k)) (K (fx ||| k)) : Nat) : Int) then zI ((gy_v (E (fx ||| k)) (K (fx ||| k)) : Nat) : Int) else (1 : Int32)) + (1 : Int32) = zI ((gy_v (E (fx ||| k)) (K (fx ||| k) + 1) : Nat) : Int) := by
          rw [← gy_v_suc]
          by_cases hc : 1 < gy_v (E (fx ||| k)) (K (fx ||| k))
          · rw [if_pos (by rw [zI_1, zI_lt (by decide) (zB_n (by omega))]; omega), if_pos hc, zI_suc]
          · rw [if_neg (by rw [zI_1, zI_lt (by decide) (zB_n (by omega))]; omega), if_neg hc]; rfl
        rw [hw]
        refine ⟨_, rfl, rfl, lU_trans e2.1 ⟨rfl, fun k h0 h18 h19 => by simp [xs_A, h18], fun j hj => by simp [xs_A]⟩, fun q hq => ?_, by simpa [xs_A] using e2.2.2.1, by simpa [xs_A] using e2.2.2.2.1, by simpa [xs_A] using e2.2.2.2.2⟩
        obtain ⟨g3, g4⟩ := e2.2.1 q hq
        by_cases e : q = fx ||| k
        · subst e
          refine ⟨?_, by simpa [xs_A] using g4⟩
          dsimp only
          rw [if_pos ⟨hhv, by rw [hvt]; omega⟩]
          simp [xs_A, upd]
        · refine ⟨?_, by simpa [xs_A] using g4⟩
          have e5 : (xs_A t2 18 (upd (t2.1 18) (fx ||| k) (zI ((gy_v (E (fx ||| k)) (K (fx ||| k) + 1) : Nat) : Int)))).1 18 q = t2.1 18 q := by simp [xs_A, upd, e]
          dsimp only
          rw [e5, g3]
          congr 3
          dsimp only
          by_cases hq : gy_h A B C n i j q = true
          · have hne : q &&& th ≠ k := by
              intro z
              rw [hH, Bool.and_eq_true, decide_eq_true_eq, z] at hq
              exact e hq.1
            by_cases hl : q &&& th < k
            · rw [if_pos ⟨hq, hl⟩, if_pos ⟨hq, by omega⟩]
            · rw [if_neg (fun z => hl z.2), if_neg (fun z => hl (by omega))]
          · rw [if_neg (fun z => hq z.1), if_neg (fun z => hq z.1)]
      · rw [if_neg ha, if_pos (show zI 0 = 0 from rfl), xo_nm_b, zI_suc]
        refine ⟨_, rfl, rfl, hsame (fun q hq z => ?_)⟩
        rw [hH, Bool.and_eq_true, z] at hq
        exact ha hq.2
    · rw [if_neg (fun z => hs ((yr_sub k hk th ht).mp z)), xo_nm_b, zI_suc]
      refine ⟨_, rfl, rfl, hsame (fun q hq z => hs ?_)⟩
      rw [← z, Nat.and_assoc, Nat.and_self]
  · rintro ⟨x, t2⟩ ⟨e1, e2⟩
    dsimp only at e1 e2 ⊢
    subst e1
    unfold F_Mod_lay_b315
    rw [zI_128, if_pos (zI_rfl _)]
    refine ⟨_, rfl, yS_cong e2 (fun _ _ => rfl) (fun q hq => ?_)⟩
    have : q &&& th < 128 := Nat.lt_of_le_of_lt Nat.and_le_left hq
    simp [this]
end
section
/-! lay, whole -/
theorem yf_k_sp (A B C : Nat → Int) (n q i j : Nat) (h : gp_f A B C i j = true) : yf_k A B C n q i j = if gy_h A B C n i j q = true then 1 else 0 := if_pos h
theorem yf_1_t {A B C : Nat → Int} {i j : Nat} (h : gp_f A B C i j = true) : yf_1 A B C i j = 1 := if_pos h
theorem yS_I {st t : XS} {E : Nat → Bool} {K : Nat → Nat} {p s m : Nat} (h : yS st t E K p s m) : (∀ v : Nat, yS st (xs_I t 0 20 (zI (v : Int))) E K v s m) ∧ (∀ v : Nat, yS st (xs_I t 0 21 (zI (v : Int))) E K p v m) ∧ (∀ v : Nat, yS st (xs_I t 0 22 (zI (v : Int))) E K p s v) := by
  obtain ⟨h1, h2, h3, h4, h5⟩ := h
  have hu : ∀ (j : Nat) (v : Int32), 20 ≤ j → lU st (xs_I t 0 j v) := fun j v hj => lU_trans h1 ⟨rfl, fun k h0 h18 h19 => by simp [xs_I, h0], fun i hi => by
    have : i ≠ j := by omega
    simp [xs_I, upd, this]⟩
  refine ⟨fun v => ⟨hu 20 _ (by omega), fun q hq => by simpa [xs_I] using h2 q hq, by simp [xs_I, upd], by simpa [xs_I, upd] using h4, by simpa [xs_I, upd] using h5⟩, fun v => ⟨hu 21 _ (by omega), fun q hq => by simpa [xs_I] using h2 q hq, by simpa [xs_I, upd] using h3, by simp [xs_I, upd], by simpa [xs_I, upd] using h5⟩, fun v => ⟨hu 22 _ (by omega), fun q hq => by simpa [xs_I] using h2 q hq, by simpa [xs_I, upd] using h3, by simpa [xs_I, upd] using h4, by simp [xs_I, upd]⟩⟩
theorem e_lay_pair {st t : XS} {n : Nat} {A B C : Nat → Int} {E : Nat → Bool} {K : Nat → Nat} {p s m : Nat} (hm : mL st n A B C) (h : yS st t E K p s m) (hK : ∀ q, K q ≤ 10000) (hmm : m ≤ 7) {i j : Nat} (hij : i < j) (hj : j < n) : ∃ r, F_Mod_lay_b190 (zI (n : Int)) (zI (j : Int)) (zI (i : Int)) t = some (.inl (zI ((i + 1 : Nat) : Int), r)) ∧ yS st r E (fun q => K q + yf_k A B C n q i j) (p + yf_1 A B C i j) (s + yf_s A B C n i j) (if m < yf_m A B C n i j then yf_m A B C n i j else m) := by
  have h7 := hm.1
  have hmt := mL_u hm h.1
  unfold F_Mod_lay_b190
  rw [if_neg (zI_ge1 (by omega) hij), e_misFirst hmt hij hj, Option.bind_some]
  by_cases hf : gp_f A B C i j = true
  · rw [if_pos hf, if_neg (by decide), xo_nm_b, h.2.2.1, zI_suc]
    have h1 := (yS_I h).1 (p + 1)
    generalize xs_I t 0 20 (zI ((p + 1 : Nat) : Int)) = t1 at *
    have hth := gy_t_lt (A := A) (B := B) (C := C) h7 i j
    have hcnt : fb_ct (gy_t A B C n i j).testBit 8 = gp_th A B C n (i, j) := by
      unfold gy_t; rw [ct_bm _ (by omega)]; rfl
    have htl := gp_th_le A B C n (i, j)
    rw [e_lay_tf (mL_u hm h1.1) (by omega) hj, Option.bind_some]
    unfold xo_u2
    dsimp only
    rw [e_icount _ (by omega), Option.bind_some, hcnt]
    have key : ∀ (t2 : XS) (s2 : Nat), yS st t2 E K (p + 1) s2 m → ∃ r, F_Mod_lay_m299 (zI (n : Int)) (zI (j : Int)) (zI (i : Int)) (zI ((gy_t A B C n i j : Nat) : Int)) (zI ((gy_f A B C n i j : Nat) : Int)) (zI ((gp_th A B C n (i, j) : Nat) : Int)) t2 = some (.inl (zI ((i + 1 : Nat) : Int), r)) ∧ yS st r E (fun q => K q + yf_k A B C n q i j) (p + 1) s2 (if m < gp_th A B C n (i, j) then gp_th A B C n (i, j) else m) := by
      intro t2 s2 h2
      unfold F_Mod_lay_m299
      have e : (if t2.1 0 22 < zI ((gp_th A B C n (i, j) : Nat) : Int) then zI ((gp_th A B C n (i, j) : Nat) : Int) else t2.1 0 22) = zI ((if m < gp_th A B C n (i, j) then gp_th A B C n (i, j) else m : Nat) : Int) := by
        rw [h2.2.2.2.2]
        by_cases hc : m < gp_th A B C n (i, j)
        · rw [if_pos (by rw [zI_lt (zB_n (by omega)) (zB_n (by omega))]; omega), if_pos hc]
        · rw [if_neg (by rw [zI_lt (zB_n (by omega)) (zB_n (by omega))]; omega), if_neg hc]
      rw [e, xo_nm_b]
      have h3 := (yS_I h2).2.2 (if m < gp_th A B C n (i, j) then gp_th A B C n (i, j) else m)
      obtain ⟨r, g1, g2⟩ := e_lay_rest hm h3 hK (i := i) (j := j) (zI (j : Int)) (zI (i : Int))
      rw [g1, Option.bind_some, xo_nm_b, zI_suc]
      exact ⟨r, rfl, yS_cong g2 (fun _ _ => rfl) (fun q _ => by rw [yf_k_sp A B C n q i j hf])⟩
    have em : yf_m A B C n i j = gp_th A B C n (i, j) := if_pos hf
    have es : yf_s A B C n i j = if 3 ≤ gp_th A B C n (i, j) then 1 else 0 := if_pos hf
    rw [yf_1_t hf, em, es]
    have e2 : (2 : Int32) = zI 2 := rfl
    by_cases hc : 3 ≤ gp_th A B C n (i, j)
    · rw [e2, if_neg (by rw [zI_le (zB_n (by omega)) (by decide)]; omega), if_pos hc, xo_nm_b, h1.2.2.2.1, zI_suc]
      exact key _ _ ((yS_I h1).2.1 (s + 1))
    · rw [e2, if_pos (by rw [zI_le (zB_n (by omega)) (by decide)]; omega), if_neg hc]
      exact key _ _ h1
  · rw [if_neg hf, if_pos (show zI 0 = 0 from rfl), xo_nm_b, zI_suc]
    have ek : ∀ q, yf_k A B C n q i j = 0 := fun q => if_neg hf
    have e1 : yf_1 A B C i j = 0 := if_neg hf
    have em : yf_m A B C n i j = 0 := if_neg hf
    have es : yf_s A B C n i j = 0 := if_neg hf
    rw [e1, em, es, if_neg (Nat.not_lt_zero m)]
    exact ⟨t, rfl, yS_cong h (fun _ _ => rfl) (fun q _ => by rw [ek q]; rfl)⟩
theorem fS_yk (A B C : Nat → Int) {n : Nat} (h7 : n ≤ 7) {j i : Nat} (hj : j ≤ n) (hi : i ≤ n) (q : Nat) : fS (yf_k A B C n q) j i ≤ 10000 := by
  have := fS_bd (f := yf_k A B C n q) (fun i j => yf_k_le A B C n q i j) (j := j) (i := i) (by omega) (by omega)
  omega
theorem gM_7 (A B C : Nat → Int) {n : Nat} (h7 : n ≤ 7) (j i : Nat) : rM (fun i => yf_m A B C n i j) (gM (yf_m A B C n) j) i ≤ 7 := by
  rw [rM_le]
  refine ⟨gM_le.mpr (fun a _ b _ => ?_), fun k _ => ?_⟩
  · have := yf_m_le A B C n b a; omega
  · have := yf_m_le A B C n k j
    omega
theorem e_lay_row {st t : XS} {n : Nat} {A B C : Nat → Int} {E : Nat → Bool} (hm : mL st n A B C) {j : Nat} (hj : j < n) (h : yS st t E (fun q => fS (yf_k A B C n q) j 0) (fS (yf_1 A B C) j 0) (fS (yf_s A B C n) j 0) (gM (yf_m A B C n) j)) : ∃ r, xo_lp (fun q : (Int32 × XS) => F_Mod_lay_b190 (zI (n : Int)) (zI (j : Int)) q.1 q.2) 1000000 ((0 : Int32), t) = some r ∧ yS st r E (fun q => fS (yf_k A B C n q) (j + 1) 0) (fS (yf_1 A B C) (j + 1) 0) (fS (yf_s A B C n) (j + 1) 0) (gM (yf_m A B C n) (j + 1)) := by
  have h7 := hm.1
  refine lp_inv (fun (i : Nat) (x : Int32 × XS) => x.1 = zI (i : Int) ∧ yS st x.2 E (fun q => fS (yf_k A B C n q) j i) (fS (yf_1 A B C) j i) (fS (yf_s A B C n) j i) (rM (fun i => yf_m A B C n i j) (gM (yf_m A B C n) j) i)) _ j 1000000 _ (by omega) ⟨rfl, h⟩ ?_ ?_
  · rintro i ⟨x, t2⟩ hi ⟨e1, e2⟩
    dsimp only at e1 e2 ⊢
    subst e1
    obtain ⟨r, g1, g2⟩ := e_lay_pair hm e2 (fun q => fS_yk A B C h7 (by omega) (by omega) q) (gM_7 A B C h7 j i) hi hj
    refine ⟨_, g1, rfl, ?_⟩
    rw [fS_i, fS_i, rM_suc]
    exact yS_cong g2 (fun _ _ => rfl) (fun q _ => by rw [fS_i])
  · rintro ⟨x, t2⟩ ⟨e1, e2⟩
    dsimp only at e1 e2 ⊢
    subst e1
    unfold F_Mod_lay_b190
    rw [if_pos (zI_rfl _)]
    refine ⟨_, rfl, ?_⟩
    rw [fS_j, fS_j, gM_suc]
    exact yS_cong e2 (fun _ _ => rfl) (fun q _ => by rw [fS_j])
theorem e_lay {st : XS} {n : Nat} {A B C : Nat → Int} (hm : mL st n A B C) : ∃ t, F_Mod_lay (zI (n : Int)) st = some t ∧ yS st t (gy_E A B n n) (fun q => fS (yf_k A B C n q) n 0) (fS (yf_1 A B C) n 0) (fS (yf_s A B C n) n 0) (gM (yf_m A B C n) n) := by
  have h7 := hm.1
  have hend : ∀ t : XS, yS st t (gy_E A B n 0) (fun _ => 0) 0 0 0 → ∃ r, F_Mod_lay_m62 (zI (n : Int)) t = some r ∧ yS st r (gy_E A B n n) (fun q => fS (yf_k A B C n q) n 0) (fS (yf_1 A B C) n 0) (fS (yf_s A B C n) n 0) (gM (yf_m A B C n) n) := by
    intro t ht
    unfold F_Mod_lay_m62
    obtain ⟨r1, g1, g2⟩ := e_lay_ends hm ht
    rw [g1, Option.bind_some]
    suffices hs : ∃ r, xo_lp (fun q : (Int32 × XS) => F_Mod_lay_b183 (zI (n : Int)) q.1 q.2) 1000000 ((0 : Int32), r1) = some r ∧ yS st r (gy_E A B n n) (fun q => fS (yf_k A B C n q) n 0) (fS (yf_1 A B C) n 0) (fS (yf_s A B C n) n 0) (gM (yf_m A B C n) n) by
      obtain ⟨r, h1, h2⟩ := hs
      rw [h1]; exact ⟨r, rfl, h2⟩
    refine lp_inv (fun (j : Nat) (x : Int32 × XS) => x.1 = zI (j : Int) ∧ yS st x.2 (gy_E A B n n) (fun q => fS (yf_k A B C n q) j 0) (fS (yf_1 A B C) j 0) (fS (yf_s A B C n) j 0) (gM (yf_m A B C n) j)) _ n 1000000 _ (by omega) ⟨rfl, g2⟩ ?_ ?_
    · rintro j ⟨x, t2⟩ hj ⟨e1, e2⟩
      dsimp only at e1 e2 ⊢
      subst e1
      unfold F_Mod_lay_b183
      obtain ⟨r, k1, k2⟩ := e_lay_row hm hj e2
      rw [if_neg (zI_ge1 (by omega) hj), k1, Option.bind_some, xo_nm_b, zI_suc]
      exact ⟨_, rfl, rfl, k2⟩
    · rintro ⟨x, t2⟩ ⟨e1, e2⟩
      dsimp only at e1 e2 ⊢
      subst e1
      unfold F_Mod_lay_b183
      rw [if_pos (zI_rfl _)]
      exact ⟨_, rfl, e2⟩
  unfold F_Mod_lay
  rw [xo_nm_b, xo_nm_b, xo_nm_b]
  obtain ⟨r, g1, g2⟩ := e_lay_zero (st := st) (t := xs_I (xs_I (xs_I st 0 20 (0 : Int32)) 0 21 (0 : Int32)) 0 22 (0 : Int32)) ⟨rfl, fun k h0 h18 h19 => by simp [xs_I, h0], fun j hj => by
    have h20 : j ≠ 20 := by omega
    have h21 : j ≠ 21 := by omega
    have h22 : j ≠ 22 := by omega
    simp [xs_I, upd, h20, h21, h22]⟩ (by simp [xs_I, upd]; rfl) (by simp [xs_I, upd]; rfl) (by simp [xs_I, upd]; rfl) (zI (n : Int))
  rw [g1, Option.bind_some]
  by_cases hn : n = 0
  · subst hn
    rw [if_pos (show zI ((0 : Nat) : Int) = 0 from rfl)]
    have e0 : (0 : Int32) = zI ((0 : Nat) : Int) := rfl
    have ec : xo_ck 128 (0 : Int32) = some () := rfl
    have et : (0 : Int32).toNatClampNeg = 0 := rfl
    rw [ec, Option.bind_some, xo_nm_b, Option.bind_some, xo_nm_b, et, nar_1]
    have h3 := yS_put g2 0
    refine hend _ (yS_cong h3 (fun q _ => ?_) (fun _ _ => rfl))
    unfold gy_E
    simp [an]
  · rw [if_neg (by rw [zI_0, zI_eq (zB_n (by omega)) (by decide)]; omega)]
    refine hend _ (yS_cong g2 (fun q _ => ?_) (fun _ _ => rfl))
    unfold gy_E
    simp [an, hn]
end
section
/-! what lay means -/
theorem fS_pr (A B C : Nat → Int) (w : Nat × Nat → Nat) (n : Nat) : fS (fun i j => if gp_f A B C i j = true then w (i, j) else 0) n 0 = pr_sm A B C w n := by
  unfold fS pr_sm
  rw [fb_sm_swap]
  show _ + 0 = _
  rw [Nat.add_zero]
  apply fb_sm_cong
  intro j hj
  obtain ⟨d, hd⟩ : ∃ d, n = j + d := ⟨n - j, by omega⟩
  rw [hd, fb_sm_split]
  have hz : fb_sm (fun k => if j + k < j ∧ gp_f A B C (j + k) j = true then w (j + k, j) else 0) d = 0 := by
    rw [fb_sm_cong (g := fun _ => 0) (fun k hk => if_neg (fun z => by have := z.1; omega)), fb_sm_z]
  rw [hz, Nat.add_zero]
  apply fb_sm_cong
  intro i hi
  simp [hi]
theorem fS_1 (A B C : Nat → Int) (n : Nat) : fS (yf_1 A B C) n 0 = ls_sm (fun _ => 1) (gp_ls A B C n n) := by
  rw [ls_sm_pr, ← fS_pr]; rfl
theorem ls_sm_1 : ∀ L : List (Nat × Nat), ls_sm (fun _ => 1) L = L.length
  | [] => rfl
  | x :: l => by rw [ls_sm, ls_sm_1 l, List.length_cons]; omega
theorem fS_s (A B C : Nat → Int) (n : Nat) : fS (yf_s A B C n) n 0 = ls_sm (fun x => if 3 ≤ gp_th A B C n x then 1 else 0) (gp_ls A B C n n) := by
  rw [ls_sm_pr, ← fS_pr]; rfl
theorem fS_k (A B C : Nat → Int) (n q : Nat) : fS (yf_k A B C n q) n 0 = ls_sm (fun x => if gy_h A B C n x.1 x.2 q = true then 1 else 0) (gp_ls A B C n n) := by
  rw [ls_sm_pr, ← fS_pr]; rfl
theorem ls_sm_cong {w v : Nat × Nat → Nat} : ∀ {L : List (Nat × Nat)}, (∀ x, x ∈ L → w x = v x) → ls_sm w L = ls_sm v L
  | [], _ => rfl
  | x :: l, h => by
    rw [ls_sm, ls_sm, h x List.mem_cons_self, ls_sm_cong (fun y hy => h y (List.mem_cons_of_mem _ hy))]
theorem ls_sm_pos {P : Nat × Nat → Bool} : ∀ {L : List (Nat × Nat)}, 0 < ls_sm (fun x => if P x = true then 1 else 0) L ↔ ∃ x, x ∈ L ∧ P x = true
  | [] => by simp [ls_sm]
  | x :: l => by
    have h := ls_sm_pos (P := P) (L := l)
    rw [ls_sm]
    constructor
    · intro hp
      by_cases hx : P x = true
      · exact ⟨x, List.mem_cons_self, hx⟩
      · rw [if_neg hx] at hp
        obtain ⟨y, hy, hz⟩ := h.mp (by omega)
        exact ⟨y, List.mem_cons_of_mem _ hy, hz⟩
    · rintro ⟨y, hy, hz⟩
      rcases List.mem_cons.mp hy with e | e
      · subst e; rw [if_pos hz]; omega
      · have := h.mpr ⟨y, e, hz⟩; omega
theorem gM_ls (A B C : Nat → Int) (n : Nat) : gM (yf_m A B C n) n = fb_mx (fun k => gp_th A B C n ((gp_ls A B C n n).getD k (0, 0))) (gp_ls A B C n n).length := by
  apply fb_mx_lub
  intro m
  rw [gM_le, fb_mx_le]
  constructor
  · intro h k hk
    obtain ⟨h1, h2, h3⟩ := gp_ls_lt hk
    have h4 := h _ h2 _ h1
    unfold yf_m at h4
    rw [if_pos h3] at h4
    exact h4
  · intro h j hj i hi
    unfold yf_m
    by_cases hf : gp_f A B C i j = true
    · rw [if_pos hf]
      have hmem : (i, j) ∈ gp_ls A B C n n := (gp_ls_mem (Nat.le_refl n)).mpr ⟨by show i < n; omega, hi, hj, hf⟩
      obtain ⟨k, hk, e⟩ := List.getElem_of_mem hmem
      have := h k hk
      rw [List.getD, List.getElem?_eq_getElem hk, e] at this
      exact this
    · rw [if_neg hf]; exact Nat.zero_le m
theorem qy_x : ∀ k, k < 7 → ∀ x, x < 128 → x.testBit k = false → x ||| 2 ^ k = x ^^^ 2 ^ k := by decide +kernel
theorem gy_b_self (A B : Nat → Int) (n i : Nat) (w : Bool) : (gy_b A B n i w).testBit i = false := by
  unfold gy_b; rw [bm_tb, gz_t_self]; simp
theorem gy_E_iff {A B : Nat → Int} {n q : Nat} (h7 : n ≤ 7) : gy_E A B n n q = true ↔ q < 2 ^ n ∧ (n = 0 ∨ gz_end A B n q) := by
  unfold gy_E
  rw [Bool.or_eq_true, Bool.and_eq_true, decide_eq_true_eq, decide_eq_true_eq, an_iff]
  have hE2 : ∀ i, i < n → (gy_E2 A B n i 2 q = true ↔ q < 2 ^ n ∧ ∃ w : Bool, gz_off q i = gy_b A B n i w) := by
    intro i hi
    have hlt : 2 ^ i < 2 ^ n := Nat.pow_lt_pow_right (by decide) hi
    have h1 : ∀ w : Bool, gy_E1 A B n i w 2 q = true ↔ q < 2 ^ n ∧ gz_off q i = gy_b A B n i w := by
      intro w
      have hb : gy_b A B n i w < 2 ^ n := bm_lt _ n
      have hb2 := gy_b_self A B n i w
      unfold gy_E1
      rw [an_suc, an_suc]
      have e0 : gy_b A B n i w ||| 0 * 2 ^ i = gy_b A B n i w := by simp
      have e1 : gy_b A B n i w ||| 1 * 2 ^ i = gy_b A B n i w ||| 2 ^ i := by simp
      rw [e0, e1]
      have hx := qy_x i (by omega) (gy_b A B n i w) (Nat.lt_of_lt_of_le hb (p2_128 h7)) hb2
      rw [hx]
      generalize gy_b A B n i w = v at *
      have e2 : (an (fun o => decide (q = v ||| o * 2 ^ i)) 0) = false := rfl
      rw [e2, Bool.false_or, Bool.or_eq_true, decide_eq_true_eq, decide_eq_true_eq]
      constructor
      · rintro (rfl | rfl)
        · refine ⟨hb, ?_⟩
          unfold gz_off; rw [hb2]; rfl
        · refine ⟨Nat.xor_lt_two_pow hb hlt, ?_⟩
          unfold gz_off
          have : (v ^^^ 2 ^ i).testBit i = true := by rw [Nat.testBit_xor, hb2, Nat.testBit_two_pow]; simp
          rw [this, if_pos rfl, Nat.xor_assoc, Nat.xor_self, Nat.xor_zero]
      · rintro ⟨h1, h2⟩
        unfold gz_off at h2
        by_cases hq : q.testBit i = true
        · rw [if_pos hq] at h2
          right
          rw [← h2, Nat.xor_assoc, Nat.xor_self, Nat.xor_zero]
        · rw [if_neg hq] at h2
          exact Or.inl h2
    unfold gy_E2
    rw [an_iff]
    constructor
    · rintro ⟨w, hw, h⟩
      obtain ⟨g1, g2⟩ := (h1 _).mp h
      exact ⟨g1, _, g2⟩
    · rintro ⟨g1, w, g2⟩
      cases w with
      | true => exact ⟨1, by omega, (h1 _).mpr ⟨g1, g2⟩⟩
      | false => exact ⟨0, by omega, (h1 _).mpr ⟨g1, g2⟩⟩
  have hoff : ∀ i, i < n → q < 2 ^ n → gz_off q i < 2 ^ n := fun i hi hq => by
    unfold gz_off
    split
    · exact Nat.xor_lt_two_pow hq (Nat.pow_lt_pow_right (by decide) hi)
    · exact hq
  constructor
  · rintro (⟨rfl, rfl⟩ | ⟨i, hi, h⟩)
    · exact ⟨by decide, Or.inl rfl⟩
    · obtain ⟨h1, w, h2⟩ := (hE2 i hi).mp h
      refine ⟨h1, Or.inr ⟨i, hi, if w then -1 else 1, by cases w <;> simp, fun t ht hti => ?_⟩⟩
      have h3 := (bm_iff (hoff i hi h1)).mp h2 t ht
      rw [gz_off_bit, decide_eq_true hti, Bool.true_and, decide_eq_true_eq] at h3
      exact h3
  · rintro ⟨h1, rfl | ⟨i, hi, g, hg, h⟩⟩
    · exact Or.inl ⟨rfl, by simpa using h1⟩
    · refine Or.inr ⟨i, hi, (hE2 i hi).mpr ⟨h1, decide (g = -1), (bm_iff (hoff i hi h1)).mpr (fun t ht => ?_)⟩⟩
      have e : (if decide (g = -1) = true then (-1 : Int) else 1) = g := by
        rcases hg with rfl | rfl <;> rfl
      rw [e, decide_eq_true_eq, gz_off_bit]
      by_cases hti : t = i
      · subst hti
        rw [gz_t_self]; simp
      · rw [← h t ht hti]; simp [hti]
/-- corner[] of the reference, and what it says -/
def gy_c (A B C : Nat → Int) (n q : Nat) : Nat := gy_v (gy_E A B n n q) (fS (yf_k A B C n q) n 0)
theorem gy_c_pos {A B C : Nat → Int} {n q : Nat} (h7 : n ≤ 7) (hok : gz_ok A B n) : 0 < gy_c A B C n q ↔ q < 2 ^ n ∧ gz_reg A B C n (fun _ => True) q := by
  unfold gy_c
  rw [gy_v_pos, gy_E_iff h7, fS_k, ls_sm_pos]
  constructor
  · rintro (⟨h1, rfl | h2⟩ | ⟨x, hx, h⟩)
    · exact ⟨h1, 0, 0, 1, by decide, fun s hs => absurd hs (Nat.not_lt_zero s)⟩
    · exact ⟨h1, gz_ref_reg hok (Or.inl h2)⟩
    · obtain ⟨h1, h2, h3⟩ := gy_h_iff.mp h
      obtain ⟨g1, g2, g3, g4⟩ := (gp_ls_mem (Nat.le_refl n)).mp hx
      exact ⟨h1, gz_ref_reg hok (Or.inr ⟨x.1, x.2, g2, g3, h2, h3⟩)⟩
  · rintro ⟨h1, h2⟩
    by_cases hn : n = 0
    · exact Or.inl ⟨h1, Or.inl hn⟩
    · rcases gz_reg_ref hok (by omega) h2 with h3 | ⟨i, j, hij, hj, hf, ha, hb⟩
      · exact Or.inl ⟨h1, Or.inr h3⟩
      · exact Or.inr ⟨(i, j), (gp_ls_mem (Nat.le_refl n)).mpr ⟨by show i < n; omega, hij, hj, gp_f_iff.mpr hf⟩, gy_h_iff.mpr ⟨h1, ha, hb⟩⟩
theorem gy_c_Q {A B C : Nat → Int} {n q : Nat} (h6 : n ≤ 6) (hok : gz_ok A B n) : 0 < gy_c A B C n q ↔ gq_Q A B C n n q = true := by
  rw [gy_c_pos (by omega) hok, gq_Q_iff h6 hok]
end
section
/-! THE RELATION OF STATES -/
def xR (sc sm : XS) (n : Nat) (A B C : Nat → Int) (Kd : Nat → Nat) (P : Nat) (X Y : Nat → Int) : Prop :=
  cL sc n A B C ∧ gz_ok A B n ∧ gPl A B C n sc ∧ (∀ s, s < n → sc.1 2 s = zI (Kd s : Int) ∧ sm.1 1 s = zI (Kd s : Int) ∧ Kd s < 6) ∧ pL sc P X Y ∧ sm.1 0 0 = zI (n : Int) ∧ mL sm n A B C ∧ pM sm P X Y
def xT (sc sm : XS) : Prop := ∃ n : Nat, n ≤ 96 ∧ sc.1 28 1 = zI (n : Int) ∧ sm.1 0 8 = zI (n : Int) ∧ ∀ i, i < n → ∃ c : Nat, c < 256 ∧ sc.1 29 i = zI (c : Int) ∧ sm.1 9 i = zI (c : Int)
def xW (sc sm : XS) : Prop := ∃ n : Nat, n ≤ 12 ∧ sc.1 0 7 = zI (n : Int) ∧ sm.1 0 12 = zI (n : Int) ∧ ∀ i, i < n → ∃ c : Nat, c < 64 ∧ sc.1 31 i = zI (c : Int) ∧ sm.1 13 i = zI (c : Int)
def xF (sc sm : XS) : Prop := ∀ i, i < 7 → sc.1 32 i = sm.1 14 i
/-- the image: a town -/
def xJ (sc sm : XS) (n : Nat) (A B C : Nat → Int) (Kd : Nat → Nat) (P : Nat) (X Y : Nat → Int) : Prop :=
  (n ≤ 6 ∧ P ≤ 8 ∧ gB A B C n ∧ gz_ok A B n) ∧ (sc.1 15 4 = zI (n : Int) ∧ sc.1 15 7 = zI (P : Int) ∧ sm.1 16 40 = zI (n : Int) ∧ sm.1 16 41 = zI (P : Int)) ∧ (∀ s, s < n → (sc.1 16 s = zI (Kd s : Int) ∧ sc.1 17 s = zI (A s) ∧ sc.1 18 s = zI (B s) ∧ sc.1 19 s = zI (C s)) ∧ (sm.1 16 s = zI (Kd s : Int) ∧ sm.1 16 (6 + s) = zI (A s) ∧ sm.1 16 (12 + s) = zI (B s) ∧ sm.1 16 (18 + s) = zI (C s)) ∧ Kd s < 6) ∧ (∀ p, p < P → sc.1 20 p = zI (X p) ∧ sc.1 21 p = zI (Y p) ∧ sm.1 16 (24 + p) = zI (X p) ∧ sm.1 16 (32 + p) = zI (Y p) ∧ ab 20 (X p) ∧ ab 20 (Y p))
def xI (sc sm : XS) : Prop := (sc.1 0 3 = 0 ∧ sm.1 0 15 = 0) ∨ (sc.1 0 3 = 1 ∧ sm.1 0 15 = 1 ∧ ∃ n A B C Kd P X Y, xJ sc sm n A B C Kd P X Y)
def xz_RR (sc sm : XS) : Prop := (∃ n A B C Kd P X Y, xR sc sm n A B C Kd P X Y) ∧ xT sc sm ∧ xW sc sm ∧ xF sc sm ∧ xI sc sm
theorem gPl_of {st t : XS} {n : Nat} {A B C : Nat → Int} (h : gPl A B C n st) (e : ∀ k, 22 ≤ k → k ≤ 27 → t.1 k = st.1 k) (e2 : t.2 = st.2) : gPl A B C n t := by
  unfold gPl gP at *
  rw [e 22 (by omega) (by omega), e 23 (by omega) (by omega), e 24 (by omega) (by omega), e 25 (by omega) (by omega), e 26 (by omega) (by omega), e 27 (by omega) (by omega), e2]
  exact h
theorem xR_of {sc sm tc tm : XS} {n : Nat} {A B C : Nat → Int} {Kd : Nat → Nat} {P : Nat} {X Y : Nat → Int} (h : xR sc sm n A B C Kd P X Y) (e1 : ∀ k, 1 ≤ k → k ≤ 7 → tc.1 k = sc.1 k) (e2 : ∀ k, 22 ≤ k → k ≤ 27 → tc.1 k = sc.1 k) (e3 : tc.2 = sc.2) (f0 : tm.1 0 0 = sm.1 0 0) (f5 : tm.1 0 5 = sm.1 0 5) (f1 : ∀ k, k = 1 ∨ k = 6 ∨ k = 7 → tm.1 k = sm.1 k) (f2 : ∀ s, s < n → tm.1 2 s = sm.1 2 s ∧ tm.1 3 s = sm.1 3 s ∧ tm.1 4 s = sm.1 4 s) : xR tc tm n A B C Kd P X Y := by
  obtain ⟨h1, h2, h3, h4, h5, h6, h7, h8⟩ := h
  refine ⟨?_, h2, gPl_of h3 e2 e3, ?_, ?_, f0.trans h6, ⟨h7.1, fun s hs => ?_, h7.2.2⟩, ?_⟩
  · unfold cL at *
    rw [e1 1 (by omega) (by omega), e1 3 (by omega) (by omega), e1 4 (by omega) (by omega), e1 5 (by omega) (by omega)]; exact h1
  · rw [e1 2 (by omega) (by omega), f1 1 (by omega)]; exact h4
  · unfold pL at *
    rw [e1 1 (by omega) (by omega), e1 6 (by omega) (by omega), e1 7 (by omega) (by omega)]; exact h5
  · obtain ⟨g1, g2, g3⟩ := f2 s hs
    rw [g1, g2, g3]; exact h7.2.1 s hs
  · unfold pM at *
    rw [f5, f1 6 (by omega), f1 7 (by omega)]; exact h8
theorem xT_of {sc sm tc tm : XS} (h : xT sc sm) (e1 : tc.1 28 1 = sc.1 28 1) (e2 : tc.1 29 = sc.1 29) (f1 : tm.1 0 8 = sm.1 0 8) (f2 : tm.1 9 = sm.1 9) : xT tc tm := by
  unfold xT at *
  rw [e1, e2, f1, f2]; exact h
theorem xW_of {sc sm tc tm : XS} (h : xW sc sm) (e1 : tc.1 0 7 = sc.1 0 7) (e2 : tc.1 31 = sc.1 31) (f1 : tm.1 0 12 = sm.1 0 12) (f2 : tm.1 13 = sm.1 13) : xW tc tm := by
  unfold xW at *
  rw [e1, e2, f1, f2]; exact h
theorem xF_of {sc sm tc tm : XS} (h : xF sc sm) (e : tc.1 32 = sc.1 32) (f : tm.1 14 = sm.1 14) : xF tc tm := by
  unfold xF at *
  rw [e, f]; exact h
theorem xJ_of {sc sm tc tm : XS} {n : Nat} {A B C : Nat → Int} {Kd : Nat → Nat} {P : Nat} {X Y : Nat → Int} (h : xJ sc sm n A B C Kd P X Y) (e : ∀ k, 15 ≤ k → k ≤ 21 → tc.1 k = sc.1 k) (f : tm.1 16 = sm.1 16) : xJ tc tm n A B C Kd P X Y := by
  unfold xJ at *
  rw [e 15 (by omega) (by omega), e 16 (by omega) (by omega), e 17 (by omega) (by omega), e 18 (by omega) (by omega), e 19 (by omega) (by omega), e 20 (by omega) (by omega), e 21 (by omega) (by omega), f]; exact h
theorem xI_of {sc sm tc tm : XS} (h : xI sc sm) (e0 : tc.1 0 3 = sc.1 0 3) (f0 : tm.1 0 15 = sm.1 0 15) (e : ∀ k, 15 ≤ k → k ≤ 21 → tc.1 k = sc.1 k) (f : tm.1 16 = sm.1 16) : xI tc tm := by
  unfold xI at *
  rw [e0, f0]
  rcases h with h | ⟨h1, h2, n, A, B, C, Kd, P, X, Y, h3⟩
  · exact Or.inl h
  · exact Or.inr ⟨h1, h2, n, A, B, C, Kd, P, X, Y, xJ_of h3 e f⟩
/-- what the reference may write while it answers -/
def mS (n : Nat) (st t : XS) : Prop := (∀ k, k = 1 ∨ (5 ≤ k ∧ k ≤ 17) → t.1 k = st.1 k) ∧ (∀ j, j < 20 → t.1 0 j = st.1 0 j) ∧ ∀ s, s < n → t.1 2 s = st.1 2 s ∧ t.1 3 s = st.1 3 s ∧ t.1 4 s = st.1 4 s
theorem mS_rfl (n : Nat) (st : XS) : mS n st st := ⟨fun _ _ => rfl, fun _ _ => rfl, fun _ _ => ⟨rfl, rfl, rfl⟩⟩
theorem mS_trans {n : Nat} {a b c : XS} (h : mS n a b) (g : mS n b c) : mS n a c := ⟨fun k hk => (g.1 k hk).trans (h.1 k hk), fun j hj => (g.2.1 j hj).trans (h.2.1 j hj), fun s hs => ⟨(g.2.2 s hs).1.trans (h.2.2 s hs).1, (g.2.2 s hs).2.1.trans (h.2.2 s hs).2.1, (g.2.2 s hs).2.2.trans (h.2.2 s hs).2.2⟩⟩
theorem mS_u {n : Nat} {a b : XS} (h : lU a b) : mS n a b := ⟨fun k hk => h.2.1 k (by omega) (by omega) (by omega), h.2.2, fun s _ => by
  rw [h.2.1 2 (by omega) (by omega) (by omega), h.2.1 3 (by omega) (by omega) (by omega), h.2.1 4 (by omega) (by omega) (by omega)]; exact ⟨rfl, rfl, rfl⟩⟩
theorem RR_mS {sc sm tm : XS} (h : xz_RR sc sm) (g : ∀ n A B C Kd P X Y, xR sc sm n A B C Kd P X Y → mS n sm tm) : xz_RR sc tm := by
  obtain ⟨⟨n, A, B, C, Kd, P, X, Y, h1⟩, h2, h3, h4, h5⟩ := h
  have q := g n A B C Kd P X Y h1
  exact ⟨⟨n, A, B, C, Kd, P, X, Y, xR_of h1 (fun _ _ _ => rfl) (fun _ _ _ => rfl) rfl (q.2.1 0 (by omega)) (q.2.1 5 (by omega)) (fun k hk => q.1 k (by omega)) q.2.2⟩, xT_of h2 rfl rfl (q.2.1 8 (by omega)) (q.1 9 (by omega)), xW_of h3 rfl rfl (q.2.1 12 (by omega)) (q.1 13 (by omega)), xF_of h4 rfl (q.1 14 (by omega)), xI_of h5 rfl (q.2.1 15 (by omega)) (fun _ _ _ => rfl) (q.1 16 (by omega))⟩
theorem RR_m {sc sm tm : XS} (h : xz_RR sc sm) (g : lU sm tm) : xz_RR sc tm := RR_mS h (fun _ _ _ _ _ _ _ _ _ => mS_u g)
/-! refusals -/
theorem e_no {sc sm : XS} (h : xz_RR sc sm) {r : Nat} (hr : 0 < r) (hr7 : r < 7) : ∃ sc2 sm2, F_All_refuse (zI (-(r : Int))) sc = some (zI (-(r : Int)), sc2) ∧ F_Mod_no (zI (-(r : Int))) sm = some (zI (-(r : Int)), sm2) ∧ xz_RR sc2 sm2 := by
  obtain ⟨⟨n, A, B, C, Kd, P, X, Y, h1⟩, h2, h3, h4, h5⟩ := h
  have e : -zI (-(r : Int)) = zI (r : Int) := by rw [zI_neg]; congr 1; omega
  refine ⟨xs_A sc 32 (upd (sc.1 32) r (sc.1 32 r + 1)), xs_A sm 14 (upd (sm.1 14) r (sm.1 14 r + 1)), ?_, ?_, ?_⟩
  · unfold F_All_refuse
    have e7 : (7 : Int32) = zI ((7 : Nat) : Int) := rfl
    rw [xo_nm_b, e, if_neg (by rw [zI_0, zI_lt (zB_n (by omega)) (by decide)]; omega), e7, if_neg (zI_ge1 (by omega) hr7), xo_rd_z hr7 (by decide), Option.bind_some, xo_ck_z hr7 (by decide), Option.bind_some, xo_nm_b, zI_cl (by omega)]
  · unfold F_Mod_no
    rw [e, xo_rd_z hr7 (by decide), Option.bind_some, xo_ck_z hr7 (by decide), Option.bind_some, xo_nm_b, zI_cl (by omega)]
  · have hc : ∀ k, k ≠ 32 → (xs_A sc 32 (upd (sc.1 32) r (sc.1 32 r + 1))).1 k = sc.1 k := fun k hk => by simp [xs_A, hk]
    have hm : ∀ k, k ≠ 14 → (xs_A sm 14 (upd (sm.1 14) r (sm.1 14 r + 1))).1 k = sm.1 k := fun k hk => by simp [xs_A, hk]
    refine ⟨⟨n, A, B, C, Kd, P, X, Y, xR_of h1 (fun k _ _ => hc k (by omega)) (fun k _ _ => hc k (by omega)) rfl (by rw [hm 0 (by omega)]) (by rw [hm 0 (by omega)]) (fun k _ => hm k (by omega)) (fun s _ => by rw [hm 2 (by omega), hm 3 (by omega), hm 4 (by omega)]; exact ⟨rfl, rfl, rfl⟩)⟩, xT_of h2 (by rw [hc 28 (by omega)]) (hc 29 (by omega)) (by rw [hm 0 (by omega)]) (hm 9 (by omega)), xW_of h3 (by rw [hc 0 (by omega)]) (hc 31 (by omega)) (by rw [hm 0 (by omega)]) (hm 13 (by omega)), fun i hi => ?_, xI_of h5 (by rw [hc 0 (by omega)]) (by rw [hm 0 (by omega)]) (fun k _ _ => hc k (by omega)) (hm 16 (by omega))⟩
    have := h4 i hi
    by_cases e : i = r
    · subst e; simp [xs_A, upd, this]
    · simp [xs_A, upd, e, this]
theorem e_noFar {sc sm : XS} (h : xz_RR sc sm) {r : Nat} (hr : 0 < r) (hr7 : r < 7) : ∃ sc2 sm2, F_All_refuseFar (zI (-(r : Int))) sc = some ((1000000000 : Int32) - zI (-(r : Int)), sc2) ∧ F_Mod_noFar (zI (-(r : Int))) sm = some ((1000000000 : Int32) - zI (-(r : Int)), sm2) ∧ xz_RR sc2 sm2 := by
  obtain ⟨sc2, sm2, h1, h2, h3⟩ := e_no h hr hr7
  refine ⟨sc2, sm2, ?_, ?_, h3⟩
  · unfold F_All_refuseFar; rw [h1]; rfl
  · unfold F_Mod_noFar; rw [h2]; rfl
end
section
/-! refusals, both sides at once (the steps of the law stand in 16.law: stated here as they stand there) -/
theorem st_no1 {sc sm : XS} (h : xz_RR sc sm) : ∃ (r : Int32) (sc2 sm2 : XS), xo_bn (F_All_refuse (-1 : Int32) sc) (fun v t => some (v, t)) = some (r, sc2) ∧ xo_bn (F_Mod_no (-1 : Int32) sm) (fun v t => some (v, t)) = some (r, sm2) ∧ xz_RR sc2 sm2 := by
  obtain ⟨sc2, sm2, h1, h2, h3⟩ := e_no h (r := 1) (by decide) (by decide)
  have e : zI (-((1 : Nat) : Int)) = (-1 : Int32) := rfl
  rw [e] at h1 h2
  rw [h1, h2]
  exact ⟨_, sc2, sm2, rfl, rfl, h3⟩
theorem st_far1 {sc sm : XS} (h : xz_RR sc sm) : ∃ (r : Int32) (sc2 sm2 : XS), xo_bn (F_All_refuseFar (-1 : Int32) sc) (fun v t => some (v, t)) = some (r, sc2) ∧ xo_bn (F_Mod_noFar (-1 : Int32) sm) (fun v t => some (v, t)) = some (r, sm2) ∧ xz_RR sc2 sm2 := by
  obtain ⟨sc2, sm2, h1, h2, h3⟩ := e_noFar h (r := 1) (by decide) (by decide)
  have e : zI (-((1 : Nat) : Int)) = (-1 : Int32) := rfl
  rw [e] at h1 h2
  rw [h1, h2]
  exact ⟨_, sc2, sm2, rfl, rfl, h3⟩
theorem st_no2 {sc sm : XS} (h : xz_RR sc sm) : ∃ (r : Int32) (sc2 sm2 : XS), xo_bn (F_All_refuse (-2 : Int32) sc) (fun v t => some (v, t)) = some (r, sc2) ∧ xo_bn (F_Mod_no (-2 : Int32) sm) (fun v t => some (v, t)) = some (r, sm2) ∧ xz_RR sc2 sm2 := by
  obtain ⟨sc2, sm2, h1, h2, h3⟩ := e_no h (r := 2) (by decide) (by decide)
  have e : zI (-((2 : Nat) : Int)) = (-2 : Int32) := rfl
  rw [e] at h1 h2
  rw [h1, h2]
  exact ⟨_, sc2, sm2, rfl, rfl, h3⟩
theorem st_far2 {sc sm : XS} (h : xz_RR sc sm) : ∃ (r : Int32) (sc2 sm2 : XS), xo_bn (F_All_refuseFar (-2 : Int32) sc) (fun v t => some (v, t)) = some (r, sc2) ∧ xo_bn (F_Mod_noFar (-2 : Int32) sm) (fun v t => some (v, t)) = some (r, sm2) ∧ xz_RR sc2 sm2 := by
  obtain ⟨sc2, sm2, h1, h2, h3⟩ := e_noFar h (r := 2) (by decide) (by decide)
  have e : zI (-((2 : Nat) : Int)) = (-2 : Int32) := rfl
  rw [e] at h1 h2
  rw [h1, h2]
  exact ⟨_, sc2, sm2, rfl, rfl, h3⟩
theorem st_no3 {sc sm : XS} (h : xz_RR sc sm) : ∃ (r : Int32) (sc2 sm2 : XS), xo_bn (F_All_refuse (-3 : Int32) sc) (fun v t => some (v, t)) = some (r, sc2) ∧ xo_bn (F_Mod_no (-3 : Int32) sm) (fun v t => some (v, t)) = some (r, sm2) ∧ xz_RR sc2 sm2 := by
  obtain ⟨sc2, sm2, h1, h2, h3⟩ := e_no h (r := 3) (by decide) (by decide)
  have e : zI (-((3 : Nat) : Int)) = (-3 : Int32) := rfl
  rw [e] at h1 h2
  rw [h1, h2]
  exact ⟨_, sc2, sm2, rfl, rfl, h3⟩
theorem st_far3 {sc sm : XS} (h : xz_RR sc sm) : ∃ (r : Int32) (sc2 sm2 : XS), xo_bn (F_All_refuseFar (-3 : Int32) sc) (fun v t => some (v, t)) = some (r, sc2) ∧ xo_bn (F_Mod_noFar (-3 : Int32) sm) (fun v t => some (v, t)) = some (r, sm2) ∧ xz_RR sc2 sm2 := by
  obtain ⟨sc2, sm2, h1, h2, h3⟩ := e_noFar h (r := 3) (by decide) (by decide)
  have e : zI (-((3 : Nat) : Int)) = (-3 : Int32) := rfl
  rw [e] at h1 h2
  rw [h1, h2]
  exact ⟨_, sc2, sm2, rfl, rfl, h3⟩
theorem st_no4 {sc sm : XS} (h : xz_RR sc sm) : ∃ (r : Int32) (sc2 sm2 : XS), xo_bn (F_All_refuse (-4 : Int32) sc) (fun v t => some (v, t)) = some (r, sc2) ∧ xo_bn (F_Mod_no (-4 : Int32) sm) (fun v t => some (v, t)) = some (r, sm2) ∧ xz_RR sc2 sm2 := by
  obtain ⟨sc2, sm2, h1, h2, h3⟩ := e_no h (r := 4) (by decide) (by decide)
  have e : zI (-((4 : Nat) : Int)) = (-4 : Int32) := rfl
  rw [e] at h1 h2
  rw [h1, h2]
  exact ⟨_, sc2, sm2, rfl, rfl, h3⟩
theorem st_far4 {sc sm : XS} (h : xz_RR sc sm) : ∃ (r : Int32) (sc2 sm2 : XS), xo_bn (F_All_refuseFar (-4 : Int32) sc) (fun v t => some (v, t)) = some (r, sc2) ∧ xo_bn (F_Mod_noFar (-4 : Int32) sm) (fun v t => some (v, t)) = some (r, sm2) ∧ xz_RR sc2 sm2 := by
  obtain ⟨sc2, sm2, h1, h2, h3⟩ := e_noFar h (r := 4) (by decide) (by decide)
  have e : zI (-((4 : Nat) : Int)) = (-4 : Int32) := rfl
  rw [e] at h1 h2
  rw [h1, h2]
  exact ⟨_, sc2, sm2, rfl, rfl, h3⟩
theorem st_no6 {sc sm : XS} (h : xz_RR sc sm) : ∃ (r : Int32) (sc2 sm2 : XS), xo_bn (F_All_refuse (-6 : Int32) sc) (fun v t => some (v, t)) = some (r, sc2) ∧ xo_bn (F_Mod_no (-6 : Int32) sm) (fun v t => some (v, t)) = some (r, sm2) ∧ xz_RR sc2 sm2 := by
  obtain ⟨sc2, sm2, h1, h2, h3⟩ := e_no h (r := 6) (by decide) (by decide)
  have e : zI (-((6 : Nat) : Int)) = (-6 : Int32) := rfl
  rw [e] at h1 h2
  rw [h1, h2]
  exact ⟨_, sc2, sm2, rfl, rfl, h3⟩
theorem st_far6 {sc sm : XS} (h : xz_RR sc sm) : ∃ (r : Int32) (sc2 sm2 : XS), xo_bn (F_All_refuseFar (-6 : Int32) sc) (fun v t => some (v, t)) = some (r, sc2) ∧ xo_bn (F_Mod_noFar (-6 : Int32) sm) (fun v t => some (v, t)) = some (r, sm2) ∧ xz_RR sc2 sm2 := by
  obtain ⟨sc2, sm2, h1, h2, h3⟩ := e_noFar h (r := 6) (by decide) (by decide)
  have e : zI (-((6 : Nat) : Int)) = (-6 : Int32) := rfl
  rw [e] at h1 h2
  rw [h1, h2]
  exact ⟨_, sc2, sm2, rfl, rfl, h3⟩
theorem zi_lt {a b : Int} (ha : zB a) (hb : zB b) (x y : Int32) (hx : x = zI a) (hy : y = zI b) : x < y ↔ a < b := by subst hx; subst hy; exact zI_lt ha hb
theorem zi_le {a b : Int} (ha : zB a) (hb : zB b) (x y : Int32) (hx : x = zI a) (hy : y = zI b) : x ≤ y ↔ a ≤ b := by subst hx; subst hy; exact zI_le ha hb
/-! a letter -/
theorem s_letter (sc sm : XS) (x1 : Int32) (h : xz_RR sc sm) : ∃ (r : Int32) (sc2 sm2 : XS), F_All_letter x1 sc = some (r, sc2) ∧ F_Mod_letter x1 sm = some (r, sm2) ∧ xz_RR sc2 sm2 := by
  obtain ⟨z, hz, rfl⟩ := zI_of x1
  have hq := h
  obtain ⟨⟨n, A, B, C, Kd, P, X, Y, h1⟩, ⟨l, hl, c1, m1, hls⟩, h3, h4, h5⟩ := h
  unfold F_All_letter F_Mod_letter F_All_letter_m28 F_Mod_letter_m27
  have k1 : (0 : Int32) ≤ zI z ↔ 0 ≤ z := zi_le (by decide) hz _ _ rfl rfl
  have k2 : (255 : Int32) < zI z ↔ 255 < z := zi_lt (by decide) hz _ _ rfl rfl
  simp only [k1, k2]
  by_cases z0 : 0 ≤ z
  · rw [if_pos z0, if_pos z0]
    by_cases z1 : 255 < z
    · rw [if_pos z1, if_pos z1]
      exact st_no6 hq
    · rw [if_neg z1, if_neg z1]
      have hf : F_Let_isFull sc = some (zI (if l < 96 then 0 else 1)) := by
        unfold F_Let_isFull
        have k3 : zI (l : Int) < (96 : Int32) ↔ (l : Int) < 96 := zi_lt (zB_n (by omega)) (by decide) _ _ rfl rfl
        rw [c1]
        by_cases hc : l < 96
        · rw [if_pos (k3.mpr (by omega)), if_pos hc]; rfl
        · rw [if_neg (fun q => hc (by have := k3.mp q; omega)), if_neg hc]; rfl
      rw [hf, Option.bind_some]
      by_cases hc : l < 96
      · have hne : ¬ sm.1 0 8 = (96 : Int32) := by
          rw [m1, show (96 : Int32) = zI 96 from rfl, zI_eq (zB_n (by omega)) (by decide)]; omega
        rw [if_pos hc, if_pos (show zI 0 = 0 from rfl), if_neg hne]
        unfold F_Let_put
        rw [hf, Option.bind_some, if_pos hc, if_pos (show zI 0 = 0 from rfl), c1, xo_ck_z hc (by decide), Option.bind_some, xo_nm_b, xo_nm_b, zI_cl (by omega), m1, xo_nm_b, xo_ck_z hc (by decide), Option.bind_some, xo_nm_b, zI_cl (by omega), zI_suc]
        have e1 : (xs_A sc 29 (upd (sc.1 29) l (zI z))).1 28 1 = zI (l : Int) := by simp [xs_A, c1]
        rw [e1, zI_suc]
        have e2 : (xs_I (xs_A sc 29 (upd (sc.1 29) l (zI z))) 28 1 (zI ((l + 1 : Nat) : Int))).1 28 1 = zI ((l + 1 : Nat) : Int) := by simp [xs_I, upd]
        have e3 : (xs_A (xs_I sm 0 8 (zI ((l + 1 : Nat) : Int))) 9 (upd ((xs_I sm 0 8 (zI ((l + 1 : Nat) : Int))).1 9) l (zI z))).1 0 8 = zI ((l + 1 : Nat) : Int) := by simp [xs_A, xs_I, upd]
        rw [e2, e3]
        refine ⟨_, _, _, rfl, rfl, ?_⟩
        generalize hsc : xs_I (xs_A sc 29 (upd (sc.1 29) l (zI z))) 28 1 (zI ((l + 1 : Nat) : Int)) = sc2
        generalize hsm : xs_A (xs_I sm 0 8 (zI ((l + 1 : Nat) : Int))) 9 (upd ((xs_I sm 0 8 (zI ((l + 1 : Nat) : Int))).1 9) l (zI z)) = sm2
        have hcc : ∀ k, k ≠ 28 → k ≠ 29 → sc2.1 k = sc.1 k := fun k g1 g2 => by rw [← hsc]; simp [xs_A, xs_I, g1, g2]
        have hcl : sc2.2 = sc.2 := by rw [← hsc]; rfl
        have hmm : ∀ k, k ≠ 0 → k ≠ 9 → sm2.1 k = sm.1 k := fun k g1 g2 => by rw [← hsm]; simp [xs_A, xs_I, g1, g2]
        have hm0 : ∀ j, j ≠ 8 → sm2.1 0 j = sm.1 0 j := fun j g1 => by rw [← hsm]; simp [xs_A, xs_I, upd, g1]
        refine ⟨⟨n, A, B, C, Kd, P, X, Y, xR_of h1 (fun k _ _ => hcc k (by omega) (by omega)) (fun k _ _ => hcc k (by omega) (by omega)) hcl (hm0 0 (by omega)) (hm0 5 (by omega)) (fun k _ => hmm k (by omega) (by omega)) (fun s _ => by rw [hmm 2 (by omega) (by omega), hmm 3 (by omega) (by omega), hmm 4 (by omega) (by omega)]; exact ⟨rfl, rfl, rfl⟩)⟩, ⟨l + 1, by omega, ?_, ?_, fun i hi => ?_⟩, xW_of h3 (by rw [hcc 0 (by omega) (by omega)]) (hcc 31 (by omega) (by omega)) (hm0 12 (by omega)) (hmm 13 (by omega) (by omega)), xF_of h4 (hcc 32 (by omega) (by omega)) (hmm 14 (by omega) (by omega)), xI_of h5 (by rw [hcc 0 (by omega) (by omega)]) (hm0 15 (by omega)) (fun k _ _ => hcc k (by omega) (by omega)) (hmm 16 (by omega) (by omega))⟩
        · rw [← hsc]; simp [xs_I, upd]
        · rw [← hsm]; simp [xs_A, xs_I, upd]
        · by_cases e : i = l
          · subst e
            refine ⟨z.toNat, by omega, ?_, ?_⟩
            · rw [← hsc, show ((z.toNat : Nat) : Int) = z by omega]; simp [xs_A, xs_I, upd]
            · rw [← hsm, show ((z.toNat : Nat) : Int) = z by omega]; simp [xs_A, xs_I, upd]
          · obtain ⟨c, g1, g2, g3⟩ := hls i (by omega)
            refine ⟨c, g1, ?_, ?_⟩
            · rw [← hsc]; simpa [xs_A, xs_I, upd, e] using g2
            · rw [← hsm]; simpa [xs_A, xs_I, upd, e] using g3
      · have hne : sm.1 0 8 = (96 : Int32) := by
          rw [m1, show (96 : Int32) = zI 96 from rfl]; congr 1; omega
        rw [if_neg hc, if_neg (by decide), if_pos hne]
        exact st_no6 hq
  · rw [if_neg z0, if_neg z0]
    exact st_no4 hq
end
section
/-! lines that are told: why not -/
def gwhy (a b c : Int) : Int := if a < -9 ∨ b < -9 ∨ c < -99 then -4 else if 9 < a ∨ 9 < b ∨ 99 < c then -6 else if a = 0 ∧ b = 0 then -3 else 0
theorem zi_eq {a b : Int} (ha : zB a) (hb : zB b) (x y : Int32) (hx : x = zI a) (hy : y = zI b) : x = y ↔ a = b := by subst hx; subst hy; exact zI_eq ha hb
theorem gwhy_0 {a b c : Int} (h : gwhy a b c = 0) : ab 9 a ∧ ab 9 b ∧ ab 99 c ∧ (a ≠ 0 ∨ b ≠ 0) := by
  unfold gwhy at h
  unfold ab
  split at h
  · omega
  · split at h
    · omega
    · split at h <;> omega
theorem gwhy_or (a b c : Int) : gwhy a b c = -4 ∨ gwhy a b c = -6 ∨ gwhy a b c = -3 ∨ gwhy a b c = 0 := by
  unfold gwhy
  split
  · omega
  · split
    · omega
    · split <;> omega
theorem e_why {a b c : Int} (ha : zB a) (hb : zB b) (hc : zB c) : F_All_whyNoLine (zI a) (zI b) (zI c) = some (zI (gwhy a b c)) := by
  unfold F_All_whyNoLine gwhy
  have k1 : zI a < (-9 : Int32) ↔ a < -9 := zi_lt ha (by decide) _ _ rfl rfl
  have k2 : zI b < (-9 : Int32) ↔ b < -9 := zi_lt hb (by decide) _ _ rfl rfl
  have k2' : (-9 : Int32) ≤ zI b ↔ -9 ≤ b := zi_le (by decide) hb _ _ rfl rfl
  have k3 : (-99 : Int32) ≤ zI c ↔ -99 ≤ c := zi_le (by decide) hc _ _ rfl rfl
  have k4 : (9 : Int32) < zI a ↔ 9 < a := zi_lt (by decide) ha _ _ rfl rfl
  have k5 : (9 : Int32) < zI b ↔ 9 < b := zi_lt (by decide) hb _ _ rfl rfl
  have k5' : zI b ≤ (9 : Int32) ↔ b ≤ 9 := zi_le hb (by decide) _ _ rfl rfl
  have k6 : zI c ≤ (99 : Int32) ↔ c ≤ 99 := zi_le hc (by decide) _ _ rfl rfl
  have k7 : zI a = (0 : Int32) ↔ a = 0 := zi_eq ha (by decide) _ _ rfl rfl
  have k8 : zI b = (0 : Int32) ↔ b = 0 := zi_eq hb (by decide) _ _ rfl rfl
  simp only [k1, k2, k2', k3, k4, k5, k5', k6, k7, k8]
  by_cases q1 : a < -9
  · rw [if_pos q1, if_pos (by omega)]; rfl
  rw [if_neg q1]
  by_cases q2 : b < -9
  · rw [if_pos q2, if_pos (by omega)]; rfl
  rw [if_neg q2]
  by_cases q3 : c < -99
  · rw [if_neg (show ¬ -99 ≤ c by omega), if_pos (by omega)]; rfl
  rw [if_pos (show -99 ≤ c by omega), if_neg (show ¬ (a < -9 ∨ b < -9 ∨ c < -99) by omega)]
  by_cases q4 : 9 < a
  · rw [if_pos q4, if_pos (by omega)]; rfl
  rw [if_neg q4]
  by_cases q5 : 9 < b
  · rw [if_pos q5, if_pos (by omega)]; rfl
  rw [if_neg q5]
  by_cases q6 : 99 < c
  · rw [if_neg (show ¬ c ≤ 99 by omega), if_pos (by omega)]; rfl
  rw [if_pos (show c ≤ 99 by omega), if_neg (show ¬ (9 < a ∨ 9 < b ∨ 99 < c) by omega)]
  by_cases q7 : a = 0
  · by_cases q8 : b = 0
    · rw [if_pos q7, if_pos q8, if_pos ⟨q7, q8⟩]; rfl
    · rw [if_pos q7, if_neg q8, if_neg (fun z => q8 z.2)]; rfl
  · rw [if_neg q7, if_neg (fun z => q7 z.1)]; rfl
theorem e_mspare {a b : Int} (ha : zB a) (hb : zB b) (st : XS) : F_Mod_spare (zI a) (zI b) st = if gwhy a b 0 = -4 then F_Mod_spare_m12 st else if gwhy a b 0 = -6 then F_Mod_spare_m31 st else if gwhy a b 0 = -3 then F_Mod_spare_m59 st else F_Mod_spare_m46 (zI a) (zI b) st := by
  unfold F_Mod_spare gwhy
  have k1 : zI a < (-9 : Int32) ↔ a < -9 := zi_lt ha (by decide) _ _ rfl rfl
  have k2 : zI b < (-9 : Int32) ↔ b < -9 := zi_lt hb (by decide) _ _ rfl rfl
  have k2' : (-9 : Int32) ≤ zI b ↔ -9 ≤ b := zi_le (by decide) hb _ _ rfl rfl
  have k4 : (9 : Int32) < zI a ↔ 9 < a := zi_lt (by decide) ha _ _ rfl rfl
  have k5 : (9 : Int32) < zI b ↔ 9 < b := zi_lt (by decide) hb _ _ rfl rfl
  have k5' : zI b ≤ (9 : Int32) ↔ b ≤ 9 := zi_le hb (by decide) _ _ rfl rfl
  have k7 : zI a = (0 : Int32) ↔ a = 0 := zi_eq ha (by decide) _ _ rfl rfl
  have k8 : zI b = (0 : Int32) ↔ b = 0 := zi_eq hb (by decide) _ _ rfl rfl
  simp only [k1, k2, k2', k4, k5, k5', k7, k8]
  by_cases q1 : a < -9
  · rw [if_pos q1, if_pos (show (a < -9 ∨ b < -9 ∨ (0 : Int) < -99) by omega)]; rfl
  rw [if_neg q1]
  by_cases q2 : b < -9
  · rw [if_neg (show ¬ -9 ≤ b by omega), if_pos (show (a < -9 ∨ b < -9 ∨ (0 : Int) < -99) by omega)]; rfl
  rw [if_pos (show -9 ≤ b by omega), if_neg (show ¬ (a < -9 ∨ b < -9 ∨ (0 : Int) < -99) by omega)]
  by_cases q4 : 9 < a
  · rw [if_pos q4, if_pos (show (9 < a ∨ 9 < b ∨ (99 : Int) < 0) by omega)]; rfl
  rw [if_neg q4]
  by_cases q5 : 9 < b
  · rw [if_neg (show ¬ b ≤ 9 by omega), if_pos (show (9 < a ∨ 9 < b ∨ (99 : Int) < 0) by omega)]; rfl
  rw [if_pos (show b ≤ 9 by omega), if_neg (show ¬ (9 < a ∨ 9 < b ∨ (99 : Int) < 0) by omega)]
  by_cases q7 : a = 0
  · by_cases q8 : b = 0
    · rw [if_pos q7, if_pos q8, if_pos (show a = 0 ∧ b = 0 from ⟨q7, q8⟩)]; rfl
    · rw [if_pos q7, if_neg q8, if_neg (show ¬ (a = 0 ∧ b = 0) from fun z => q8 z.2)]; rfl
  · rw [if_neg q7, if_neg (show ¬ (a = 0 ∧ b = 0) from fun z => q7 z.1)]; rfl
theorem e_mmost {a b : Int} (ha : zB a) (hb : zB b) (st : XS) : F_Mod_most (zI a) (zI b) st = if gwhy a b 0 = -4 then F_Mod_most_m12 st else if gwhy a b 0 = -6 then F_Mod_most_m31 st else if gwhy a b 0 = -3 then F_Mod_most_m59 st else F_Mod_most_m46 (zI a) (zI b) st := by
  unfold F_Mod_most gwhy
  have k1 : zI a < (-9 : Int32) ↔ a < -9 := zi_lt ha (by decide) _ _ rfl rfl
  have k2 : zI b < (-9 : Int32) ↔ b < -9 := zi_lt hb (by decide) _ _ rfl rfl
  have k2' : (-9 : Int32) ≤ zI b ↔ -9 ≤ b := zi_le (by decide) hb _ _ rfl rfl
  have k4 : (9 : Int32) < zI a ↔ 9 < a := zi_lt (by decide) ha _ _ rfl rfl
  have k5 : (9 : Int32) < zI b ↔ 9 < b := zi_lt (by decide) hb _ _ rfl rfl
  have k5' : zI b ≤ (9 : Int32) ↔ b ≤ 9 := zi_le hb (by decide) _ _ rfl rfl
  have k7 : zI a = (0 : Int32) ↔ a = 0 := zi_eq ha (by decide) _ _ rfl rfl
  have k8 : zI b = (0 : Int32) ↔ b = 0 := zi_eq hb (by decide) _ _ rfl rfl
  simp only [k1, k2, k2', k4, k5, k5', k7, k8]
  by_cases q1 : a < -9
  · rw [if_pos q1, if_pos (show (a < -9 ∨ b < -9 ∨ (0 : Int) < -99) by omega)]; rfl
  rw [if_neg q1]
  by_cases q2 : b < -9
  · rw [if_neg (show ¬ -9 ≤ b by omega), if_pos (show (a < -9 ∨ b < -9 ∨ (0 : Int) < -99) by omega)]; rfl
  rw [if_pos (show -9 ≤ b by omega), if_neg (show ¬ (a < -9 ∨ b < -9 ∨ (0 : Int) < -99) by omega)]
  by_cases q4 : 9 < a
  · rw [if_pos q4, if_pos (show (9 < a ∨ 9 < b ∨ (99 : Int) < 0) by omega)]; rfl
  rw [if_neg q4]
  by_cases q5 : 9 < b
  · rw [if_neg (show ¬ b ≤ 9 by omega), if_pos (show (9 < a ∨ 9 < b ∨ (99 : Int) < 0) by omega)]; rfl
  rw [if_pos (show b ≤ 9 by omega), if_neg (show ¬ (9 < a ∨ 9 < b ∨ (99 : Int) < 0) by omega)]
  by_cases q7 : a = 0
  · by_cases q8 : b = 0
    · rw [if_pos q7, if_pos q8, if_pos (show a = 0 ∧ b = 0 from ⟨q7, q8⟩)]; rfl
    · rw [if_pos q7, if_neg q8, if_neg (show ¬ (a = 0 ∧ b = 0) from fun z => q8 z.2)]; rfl
  · rw [if_neg q7, if_neg (show ¬ (a = 0 ∧ b = 0) from fun z => q7 z.1)]; rfl
theorem e_mnext {a b c : Int} (ha : zB a) (hb : zB b) (hc : zB c) (x4 : Int32) (st : XS) : F_Mod_next_m21 (zI a) (zI b) (zI c) x4 st = if gwhy a b c = -4 then F_Mod_next_m39 st else if gwhy a b c = -6 then F_Mod_next_m64 st else if gwhy a b c = -3 then F_Mod_next_m92 st else F_Mod_next_m79 (zI a) (zI b) (zI c) x4 st := by
  unfold F_Mod_next_m21 gwhy
  have k1 : zI a < (-9 : Int32) ↔ a < -9 := zi_lt ha (by decide) _ _ rfl rfl
  have k2 : zI b < (-9 : Int32) ↔ b < -9 := zi_lt hb (by decide) _ _ rfl rfl
  have k2' : (-9 : Int32) ≤ zI b ↔ -9 ≤ b := zi_le (by decide) hb _ _ rfl rfl
  have k3 : (-99 : Int32) ≤ zI c ↔ -99 ≤ c := zi_le (by decide) hc _ _ rfl rfl
  have k4 : (9 : Int32) < zI a ↔ 9 < a := zi_lt (by decide) ha _ _ rfl rfl
  have k5 : (9 : Int32) < zI b ↔ 9 < b := zi_lt (by decide) hb _ _ rfl rfl
  have k5' : zI b ≤ (9 : Int32) ↔ b ≤ 9 := zi_le hb (by decide) _ _ rfl rfl
  have k6 : zI c ≤ (99 : Int32) ↔ c ≤ 99 := zi_le hc (by decide) _ _ rfl rfl
  have k7 : zI a = (0 : Int32) ↔ a = 0 := zi_eq ha (by decide) _ _ rfl rfl
  have k8 : zI b = (0 : Int32) ↔ b = 0 := zi_eq hb (by decide) _ _ rfl rfl
  simp only [k1, k2, k2', k3, k4, k5, k5', k6, k7, k8]
  by_cases q1 : a < -9
  · rw [if_pos q1, if_pos (show (a < -9 ∨ b < -9 ∨ c < -99) by omega)]; rfl
  rw [if_neg q1]
  by_cases q2 : b < -9
  · rw [if_pos q2, if_pos (show (a < -9 ∨ b < -9 ∨ c < -99) by omega)]; rfl
  rw [if_neg q2]
  by_cases q3 : c < -99
  · rw [if_neg (show ¬ -99 ≤ c by omega), if_pos (show (a < -9 ∨ b < -9 ∨ c < -99) by omega)]; rfl
  rw [if_pos (show -99 ≤ c by omega), if_neg (show ¬ (a < -9 ∨ b < -9 ∨ c < -99) by omega)]
  by_cases q4 : 9 < a
  · rw [if_pos q4, if_pos (show (9 < a ∨ 9 < b ∨ 99 < c) by omega)]; rfl
  rw [if_neg q4]
  by_cases q5 : 9 < b
  · rw [if_pos q5, if_pos (show (9 < a ∨ 9 < b ∨ 99 < c) by omega)]; rfl
  rw [if_neg q5]
  by_cases q6 : 99 < c
  · rw [if_neg (show ¬ c ≤ 99 by omega), if_pos (show (9 < a ∨ 9 < b ∨ 99 < c) by omega)]; rfl
  rw [if_pos (show c ≤ 99 by omega), if_neg (show ¬ (9 < a ∨ 9 < b ∨ 99 < c) by omega)]
  by_cases q7 : a = 0
  · by_cases q8 : b = 0
    · rw [if_pos q7, if_pos q8, if_pos (show a = 0 ∧ b = 0 from ⟨q7, q8⟩)]; rfl
    · rw [if_pos q7, if_neg q8, if_neg (show ¬ (a = 0 ∧ b = 0) from fun z => q8 z.2)]; rfl
  · rw [if_neg q7, if_neg (show ¬ (a = 0 ∧ b = 0) from fun z => q7 z.1)]; rfl
def fthr (a b : Int) (x3 : Int32) (st : XS) : Option (Int32 × XS) := if zI a < (-9 : Int32) then F_Mod_through_m26 st else if (-9 : Int32) ≤ zI b then if (9 : Int32) < zI a then F_Mod_through_m45 st else if zI b ≤ (9 : Int32) then if zI a = (0 : Int32) then if zI b = (0 : Int32) then xo_bn (F_Mod_noFar (-3 : Int32) st) fun v10 t11 => some (v10, t11) else F_Mod_through_m69 (zI a) (zI b) x3 st else F_Mod_through_m69 (zI a) (zI b) x3 st else F_Mod_through_m45 st else F_Mod_through_m26 st
theorem e_mthr {a b : Int} (ha : zB a) (hb : zB b) (x3 : Int32) (st : XS) : fthr a b x3 st = if gwhy a b 0 = -4 then F_Mod_through_m26 st else if gwhy a b 0 = -6 then F_Mod_through_m45 st else if gwhy a b 0 = -3 then xo_bn (F_Mod_noFar (-3 : Int32) st) (fun v10 t11 => some (v10, t11)) else F_Mod_through_m69 (zI a) (zI b) x3 st := by
  unfold fthr gwhy
  have k1 : zI a < (-9 : Int32) ↔ a < -9 := zi_lt ha (by decide) _ _ rfl rfl
  have k2 : zI b < (-9 : Int32) ↔ b < -9 := zi_lt hb (by decide) _ _ rfl rfl
  have k2' : (-9 : Int32) ≤ zI b ↔ -9 ≤ b := zi_le (by decide) hb _ _ rfl rfl
  have k4 : (9 : Int32) < zI a ↔ 9 < a := zi_lt (by decide) ha _ _ rfl rfl
  have k5 : (9 : Int32) < zI b ↔ 9 < b := zi_lt (by decide) hb _ _ rfl rfl
  have k5' : zI b ≤ (9 : Int32) ↔ b ≤ 9 := zi_le hb (by decide) _ _ rfl rfl
  have k7 : zI a = (0 : Int32) ↔ a = 0 := zi_eq ha (by decide) _ _ rfl rfl
  have k8 : zI b = (0 : Int32) ↔ b = 0 := zi_eq hb (by decide) _ _ rfl rfl
  simp only [k1, k2, k2', k4, k5, k5', k7, k8]
  by_cases q1 : a < -9
  · rw [if_pos q1, if_pos (show (a < -9 ∨ b < -9 ∨ (0 : Int) < -99) by omega)]; rfl
  rw [if_neg q1]
  by_cases q2 : b < -9
  · rw [if_neg (show ¬ -9 ≤ b by omega), if_pos (show (a < -9 ∨ b < -9 ∨ (0 : Int) < -99) by omega)]; rfl
  rw [if_pos (show -9 ≤ b by omega), if_neg (show ¬ (a < -9 ∨ b < -9 ∨ (0 : Int) < -99) by omega)]
  by_cases q4 : 9 < a
  · rw [if_pos q4, if_pos (show (9 < a ∨ 9 < b ∨ (99 : Int) < 0) by omega)]; rfl
  rw [if_neg q4]
  by_cases q5 : 9 < b
  · rw [if_neg (show ¬ b ≤ 9 by omega), if_pos (show (9 < a ∨ 9 < b ∨ (99 : Int) < 0) by omega)]; rfl
  rw [if_pos (show b ≤ 9 by omega), if_neg (show ¬ (9 < a ∨ 9 < b ∨ (99 : Int) < 0) by omega)]
  by_cases q7 : a = 0
  · by_cases q8 : b = 0
    · rw [if_pos q7, if_pos q8, if_pos (show a = 0 ∧ b = 0 from ⟨q7, q8⟩)]; rfl
    · rw [if_pos q7, if_neg q8, if_neg (show ¬ (a = 0 ∧ b = 0) from fun z => q8 z.2)]; rfl
  · rw [if_neg q7, if_neg (show ¬ (a = 0 ∧ b = 0) from fun z => q7 z.1)]; rfl
end
section
/-! plots, lines through them, where they lie -/
theorem some_eta {α β : Type} (x : Option (α × β)) : xo_bn x (fun v t => some (v, t)) = x := by cases x <;> rfl
theorem s_plot (sc sm : XS) (x1 x2 : Int32) (h : xz_RR sc sm) : ∃ (r : Int32) (sc2 sm2 : XS), F_All_plot x1 x2 sc = some (r, sc2) ∧ F_Mod_plot x1 x2 sm = some (r, sm2) ∧ xz_RR sc2 sm2 := by
  obtain ⟨x, hx, rfl⟩ := zI_of x1
  obtain ⟨y, hy, rfl⟩ := zI_of x2
  have hq := h
  obtain ⟨⟨n, A, B, C, Kd, P, X, Y, h1, hok, hpl, hkd, hp, hn, hm, hpm⟩, h2, h3, h4, h5⟩ := h
  unfold F_All_plot F_Mod_plot
  have hw : F_Mod_within (zI y) (0 : Int32) (1 : Int32) = some (zI (if 0 ≤ y ∧ y ≤ 1 then 1 else 0)) := e_mwithin (a := 0) (b := 1) hy (by decide) (by decide)
  have k0 : zI y = (0 : Int32) ↔ y = 0 := zi_eq hy (by decide) _ _ rfl rfl
  have k1 : zI y = (1 : Int32) ↔ y = 1 := zi_eq hy (by decide) _ _ rfl rfl
  rw [e_hasPlot hp hx, e_misPlot hpm.1 hpm.2.1 hx, Option.bind_some, Option.bind_some]
  by_cases c : 0 ≤ x ∧ x < (P : Int)
  · obtain ⟨p, rfl⟩ : ∃ p : Nat, x = p := ⟨x.toNat, by omega⟩
    obtain ⟨g1, g2, -, -⟩ := hp.2.2 p (by omega)
    obtain ⟨m1, m2, -, -⟩ := hpm.2.2 p (by omega)
    have h8 := hp.2.1
    rw [if_pos c, if_neg (by decide), hw, Option.bind_some]
    simp only [k0, k1]
    by_cases c0 : y = 0
    · rw [if_pos c0, if_neg (show ¬ zI (if 0 ≤ y ∧ y ≤ 1 then 1 else 0) = 0 by rw [if_pos (by omega)]; decide), if_pos c0, xo_rd_z (by omega) (by decide), xo_rd_z (by omega) (by decide), g1, m1]
      exact ⟨_, _, _, rfl, rfl, hq⟩
    · rw [if_neg c0, if_neg c0]
      by_cases c1 : y = 1
      · rw [if_pos c1, if_neg (show ¬ zI (if 0 ≤ y ∧ y ≤ 1 then 1 else 0) = 0 by rw [if_pos (by omega)]; decide), xo_rd_z (by omega) (by decide), xo_rd_z (by omega) (by decide), g2, m2]
        exact ⟨_, _, _, rfl, rfl, hq⟩
      · rw [if_neg c1, if_pos (show zI (if 0 ≤ y ∧ y ≤ 1 then 1 else 0) = 0 by rw [if_neg (by omega)]; rfl)]
        exact st_far2 hq
  · rw [if_neg c, if_pos (show zI 0 = 0 from rfl), if_pos (show zI 0 = 0 from rfl)]
    exact st_far1 hq
theorem s_where (sc sm : XS) (x1 : Int32) (h : xz_RR sc sm) : ∃ (r : Int32) (sc2 sm2 : XS), F_All_where x1 sc = some (r, sc2) ∧ F_Mod_where x1 sm = some (r, sm2) ∧ xz_RR sc2 sm2 := by
  obtain ⟨x, hx, rfl⟩ := zI_of x1
  have hq := h
  obtain ⟨⟨n, A, B, C, Kd, P, X, Y, h1, hok, hpl, hkd, hp, hn, hm, hpm⟩, h2, h3, h4, h5⟩ := h
  unfold F_All_where F_Mod_where
  rw [e_hasPlot hp hx, e_misPlot hpm.1 hpm.2.1 hx, Option.bind_some, Option.bind_some]
  by_cases c : 0 ≤ x ∧ x < (P : Int)
  · obtain ⟨p, rfl⟩ : ∃ p : Nat, x = p := ⟨x.toNat, by omega⟩
    rw [if_pos c, if_neg (by decide), if_neg (by decide), e_qPlot h1 hp (show p < P by omega), e_mwhere hm hn hpm (show p < P by omega)]
    exact ⟨_, _, _, rfl, rfl, hq⟩
  · rw [if_neg c, if_pos (show zI 0 = 0 from rfl), if_pos (show zI 0 = 0 from rfl)]
    exact st_no1 hq
theorem s_steps (sc sm : XS) (x1 x2 : Int32) (h : xz_RR sc sm) : ∃ (r : Int32) (sc2 sm2 : XS), F_All_steps x1 x2 sc = some (r, sc2) ∧ F_Mod_steps x1 x2 sm = some (r, sm2) ∧ xz_RR sc2 sm2 := by
  obtain ⟨x, hx, rfl⟩ := zI_of x1
  obtain ⟨y, hy, rfl⟩ := zI_of x2
  have hq := h
  obtain ⟨⟨n, A, B, C, Kd, P, X, Y, h1, hok, hpl, hkd, hp, hn, hm, hpm⟩, h2, h3, h4, h5⟩ := h
  unfold F_All_steps F_Mod_steps F_All_steps_m22 F_Mod_steps_m16
  rw [e_hasPlot hp hx, e_misPlot hpm.1 hpm.2.1 hx, Option.bind_some, Option.bind_some]
  by_cases c : 0 ≤ x ∧ x < (P : Int)
  · obtain ⟨p, rfl⟩ : ∃ p : Nat, x = p := ⟨x.toNat, by omega⟩
    rw [if_pos c, if_neg (by decide), if_neg (by decide), e_hasPlot hp hy, e_misPlot hpm.1 hpm.2.1 hy, Option.bind_some, Option.bind_some]
    by_cases d : 0 ≤ y ∧ y < (P : Int)
    · obtain ⟨q, rfl⟩ : ∃ p : Nat, y = p := ⟨y.toNat, by omega⟩
      rw [if_pos d, if_neg (by decide), if_neg (by decide), e_qPlot h1 hp (show p < P by omega), e_mwhere hm hn hpm (show p < P by omega), Option.bind_some, Option.bind_some, e_qPlot h1 hp (show q < P by omega), e_mwhere hm hn hpm (show q < P by omega), Option.bind_some, Option.bind_some]
      have h6 := h1.2.1
      generalize hu : gw A B C n (X p) (Y p) = u
      generalize hv : gw A B C n (X q) (Y q) = v
      by_cases e1 : zI u = (-9 : Int32)
      · rw [if_pos e1, if_pos e1]
        exact ⟨_, _, _, rfl, rfl, hq⟩
      · rw [if_neg e1, if_neg e1]
        by_cases e2 : zI v = (-9 : Int32)
        · rw [if_pos e2, if_pos e2]
          exact ⟨_, _, _, rfl, rfl, hq⟩
        · rw [if_neg e2, if_neg e2]
          have g1 : ¬ gw_z A B C n (X p) (Y p) = true := fun z => e1 (by rw [← hu]; exact (gw_9 h6 _ _).mpr z)
          have g2 : ¬ gw_z A B C n (X q) (Y q) = true := fun z => e2 (by rw [← hv]; exact (gw_9 h6 _ _).mpr z)
          rw [← hu, ← hv, gw_n g1, gw_n g2, zI_xor]
          have b1 := gw_b_lt (A := A) (B := B) (C := C) h6 (X p) (Y p)
          have b2 := gw_b_lt (A := A) (B := B) (C := C) h6 (X q) (Y q)
          have b3 : gw_b A B C n (X p) (Y p) ^^^ gw_b A B C n (X q) (Y q) < 2 ^ 6 := Nat.xor_lt_two_pow b1 b2
          rw [e_icount _ (by omega)]
          exact ⟨_, _, _, rfl, rfl, hq⟩
    · rw [if_neg d, if_pos (show zI 0 = 0 from rfl), if_pos (show zI 0 = 0 from rfl)]
      exact st_no1 hq
  · rw [if_neg c, if_pos (show zI 0 = 0 from rfl), if_pos (show zI 0 = 0 from rfl)]
    exact st_no1 hq
theorem s_through (sc sm : XS) (x1 x2 x3 : Int32) (h : xz_RR sc sm) : ∃ (r : Int32) (sc2 sm2 : XS), F_All_through x1 x2 x3 sc = some (r, sc2) ∧ F_Mod_through x1 x2 x3 sm = some (r, sm2) ∧ xz_RR sc2 sm2 := by
  obtain ⟨a, ha, rfl⟩ := zI_of x1
  obtain ⟨b, hb, rfl⟩ := zI_of x2
  obtain ⟨x, hx, rfl⟩ := zI_of x3
  have hq := h
  obtain ⟨⟨n, A, B, C, Kd, P, X, Y, h1, hok, hpl, hkd, hp, hn, hm, hpm⟩, h2, h3, h4, h5⟩ := h
  have hw : F_All_whyNoLine (zI a) (zI b) (0 : Int32) = some (zI (gwhy a b 0)) := e_why (c := 0) ha hb (by decide)
  have ht := e_mthr ha hb (zI x) sm
  unfold fthr at ht
  unfold F_All_through F_Mod_through
  rw [e_hasPlot hp hx, e_misPlot hpm.1 hpm.2.1 hx, Option.bind_some, Option.bind_some]
  by_cases c : 0 ≤ x ∧ x < (P : Int)
  · obtain ⟨p, rfl⟩ : ∃ p : Nat, x = p := ⟨x.toNat, by omega⟩
    have h8 := hp.2.1
    obtain ⟨g1, g2, -, -⟩ := hp.2.2 p (by omega)
    obtain ⟨m1, m2, -, -⟩ := hpm.2.2 p (by omega)
    rw [if_pos c, if_neg (by decide), if_neg (by decide), hw, Option.bind_some, ht]
    rcases gwhy_or a b 0 with e | e | e | e <;> rw [e]
    · rw [if_neg (by decide), if_pos rfl]
      exact st_far4 hq
    · rw [if_neg (by decide), if_neg (by decide), if_pos rfl]
      exact st_far6 hq
    · rw [if_neg (by decide), if_neg (by decide), if_neg (by decide), if_pos rfl]
      exact st_far3 hq
    · rw [if_pos (show zI 0 = 0 from rfl), if_neg (by decide), if_neg (by decide), if_neg (by decide)]
      unfold F_Mod_through_m69
      rw [xo_rd_z (show p < 8 by omega) (by decide), Option.bind_some, xo_rd_z (show p < 8 by omega) (by decide), Option.bind_some, xo_rd_z (show p < 8 by omega) (by decide), Option.bind_some, xo_rd_z (show p < 8 by omega) (by decide), Option.bind_some, g1, g2, m1, m2]
      exact ⟨_, _, _, rfl, rfl, hq⟩
  · rw [if_neg c, if_pos (show zI 0 = 0 from rfl), if_pos (show zI 0 = 0 from rfl)]
    exact st_far1 hq
theorem s_count (sc sm : XS) (x1 : Int32) (h : xz_RR sc sm) : ∃ (r : Int32) (sc2 sm2 : XS), F_All_count x1 sc = some r ∧ F_Mod_count x1 sm = some r ∧ xz_RR sc2 sm2 ∧ sc = sc2 ∧ sm = sm2 := by
  obtain ⟨x, hx, rfl⟩ := zI_of x1
  have hq := h
  obtain ⟨⟨n, A, B, C, Kd, P, X, Y, h1, hok, hpl, hkd, hp, hn, hm, hpm⟩, ⟨l, hl, lc, lm, -⟩, ⟨r, hr, rc, rm, -⟩, h4, h5⟩ := h
  suffices hs : ∃ r, F_All_count (zI x) sc = some r ∧ F_Mod_count (zI x) sm = some r by
    obtain ⟨r, e1, e2⟩ := hs
    exact ⟨r, sc, sm, e1, e2, hq, rfl, rfl⟩
  unfold F_All_count F_Mod_count
  have hw : F_Mod_within (zI x) (11 : Int32) (16 : Int32) = some (zI (if 11 ≤ x ∧ x ≤ 16 then 1 else 0)) := e_mwithin (a := 11) (b := 16) hx (by decide) (by decide)
  have k0 : zI x = (0 : Int32) ↔ x = 0 := zi_eq hx (by decide) _ _ rfl rfl
  have k1 : zI x = (1 : Int32) ↔ x = 1 := zi_eq hx (by decide) _ _ rfl rfl
  have k2 : zI x = (2 : Int32) ↔ x = 2 := zi_eq hx (by decide) _ _ rfl rfl
  have k3 : zI x = (3 : Int32) ↔ x = 3 := zi_eq hx (by decide) _ _ rfl rfl
  have k4 : zI x < (11 : Int32) ↔ x < 11 := zi_lt hx (by decide) _ _ rfl rfl
  have k5 : (16 : Int32) < zI x ↔ 16 < x := zi_lt (by decide) hx _ _ rfl rfl
  rw [hw, Option.bind_some, h1.1, hp.1, hpm.1, hn, lc, lm, rc, rm]
  simp only [k0, k1, k2, k3, k4, k5]
  by_cases c0 : x = 0
  · rw [if_pos c0, if_pos c0]; exact ⟨_, rfl, rfl⟩
  rw [if_neg c0, if_neg c0]
  by_cases c1 : x = 1
  · rw [if_pos c1, if_pos c1]; exact ⟨_, rfl, rfl⟩
  rw [if_neg c1, if_neg c1]
  by_cases c2 : x = 2
  · rw [if_pos c2, if_pos c2]; exact ⟨_, rfl, rfl⟩
  rw [if_neg c2, if_neg c2]
  by_cases c3 : x = 3
  · rw [if_pos c3, if_pos c3]; exact ⟨_, rfl, rfl⟩
  rw [if_neg c3, if_neg c3]
  by_cases c4 : x < 11
  · rw [if_pos c4, if_neg (show ¬ (11 ≤ x ∧ x ≤ 16) by omega)]; exact ⟨_, rfl, rfl⟩
  rw [if_neg c4]
  by_cases c5 : 16 < x
  · rw [if_pos c5, if_neg (show ¬ (11 ≤ x ∧ x ≤ 16) by omega)]; exact ⟨_, rfl, rfl⟩
  obtain ⟨k, hk⟩ : ∃ k : Nat, x = k + 10 := ⟨(x - 10).toNat, by omega⟩
  have e : zI x - (10 : Int32) = zI (k : Int) := by
    rw [show (10 : Int32) = zI 10 from rfl, zI_sub]; congr 1; omega
  rw [if_neg c5, if_pos (show 11 ≤ x ∧ x ≤ 16 by omega), if_neg (show ¬ zI 1 = 0 by decide), e, xo_rd_z (by omega) (by decide), xo_rd_z (by omega) (by decide), h4 k (by omega)]
  exact ⟨_, rfl, rfl⟩
theorem s_row (sc sm : XS) (x1 : Int32) (h : xz_RR sc sm) : ∃ (r : Int32) (sc2 sm2 : XS), F_All_row x1 sc = some (r, sc2) ∧ F_Mod_row x1 sm = some (r, sm2) ∧ xz_RR sc2 sm2 := by
  obtain ⟨z, hz, rfl⟩ := zI_of x1
  have hq := h
  obtain ⟨⟨n, A, B, C, Kd, P, X, Y, h1⟩, h2, ⟨l, hl, c1, m1, hls⟩, h4, h5⟩ := h
  unfold F_All_row F_Mod_row F_All_row_m29 F_Mod_row_m26
  have k1 : (0 : Int32) ≤ zI z ↔ 0 ≤ z := zi_le (by decide) hz _ _ rfl rfl
  have k2 : (64 : Int32) ≤ zI z ↔ 64 ≤ z := zi_le (by decide) hz _ _ rfl rfl
  have k2' : (63 : Int32) < zI z ↔ 63 < z := zi_lt (by decide) hz _ _ rfl rfl
  have k3 : zI (l : Int) < (12 : Int32) ↔ (l : Int) < 12 := zi_lt (zB_n (by omega)) (by decide) _ _ rfl rfl
  have k4 : zI (l : Int) = (12 : Int32) ↔ (l : Int) = 12 := zi_eq (zB_n (by omega)) (by decide) _ _ rfl rfl
  rw [c1, m1]
  simp only [k1, k2, k2', k3, k4]
  by_cases z0 : 0 ≤ z
  · rw [if_pos z0, if_pos z0]
    by_cases z1 : 63 < z
    · rw [if_pos (show 64 ≤ z by omega), if_pos z1]
      exact st_no6 hq
    · rw [if_neg (show ¬ 64 ≤ z by omega), if_neg z1]
      by_cases hc : l < 12
      · rw [if_pos (show (l : Int) < 12 by omega), if_neg (show ¬ (l : Int) = 12 by omega), xo_ck_z hc (by decide), Option.bind_some, xo_nm_b, xo_nm_b, zI_cl (by omega), xo_nm_b, Option.bind_some, xo_nm_b, zI_suc]
        have e1 : (xs_A sc 31 (upd (sc.1 31) l (zI z))).1 0 7 = zI (l : Int) := by simp [xs_A, c1]
        rw [e1, zI_suc]
        have e2 : (xs_I (xs_A sc 31 (upd (sc.1 31) l (zI z))) 0 7 (zI ((l + 1 : Nat) : Int))).1 0 7 = zI ((l + 1 : Nat) : Int) := by simp [xs_I, upd]
        have e3 : (xs_A (xs_I sm 0 12 (zI ((l + 1 : Nat) : Int))) 13 (upd ((xs_I sm 0 12 (zI ((l + 1 : Nat) : Int))).1 13) l (zI z))).1 0 12 = zI ((l + 1 : Nat) : Int) := by simp [xs_A, xs_I, upd]
        rw [e2, e3]
        refine ⟨_, _, _, rfl, rfl, ?_⟩
        generalize hsc : xs_I (xs_A sc 31 (upd (sc.1 31) l (zI z))) 0 7 (zI ((l + 1 : Nat) : Int)) = sc2
        generalize hsm : xs_A (xs_I sm 0 12 (zI ((l + 1 : Nat) : Int))) 13 (upd ((xs_I sm 0 12 (zI ((l + 1 : Nat) : Int))).1 13) l (zI z)) = sm2
        have hcc : ∀ k, k ≠ 0 → k ≠ 31 → sc2.1 k = sc.1 k := fun k g1 g2 => by rw [← hsc]; simp [xs_A, xs_I, g1, g2]
        have hc0 : ∀ j, j ≠ 7 → sc2.1 0 j = sc.1 0 j := fun j g1 => by rw [← hsc]; simp [xs_A, xs_I, upd, g1]
        have hcl : sc2.2 = sc.2 := by rw [← hsc]; rfl
        have hmm : ∀ k, k ≠ 0 → k ≠ 13 → sm2.1 k = sm.1 k := fun k g1 g2 => by rw [← hsm]; simp [xs_A, xs_I, g1, g2]
        have hm0 : ∀ j, j ≠ 12 → sm2.1 0 j = sm.1 0 j := fun j g1 => by rw [← hsm]; simp [xs_A, xs_I, upd, g1]
        refine ⟨⟨n, A, B, C, Kd, P, X, Y, xR_of h1 (fun k _ _ => hcc k (by omega) (by omega)) (fun k _ _ => hcc k (by omega) (by omega)) hcl (hm0 0 (by omega)) (hm0 5 (by omega)) (fun k _ => hmm k (by omega) (by omega)) (fun s _ => by rw [hmm 2 (by omega) (by omega), hmm 3 (by omega) (by omega), hmm 4 (by omega) (by omega)]; exact ⟨rfl, rfl, rfl⟩)⟩, xT_of h2 (by rw [hcc 28 (by omega) (by omega)]) (hcc 29 (by omega) (by omega)) (hm0 8 (by omega)) (hmm 9 (by omega) (by omega)), ⟨l + 1, by omega, ?_, ?_, fun i hi => ?_⟩, xF_of h4 (hcc 32 (by omega) (by omega)) (hmm 14 (by omega) (by omega)), xI_of h5 (hc0 3 (by omega)) (hm0 15 (by omega)) (fun k _ _ => hcc k (by omega) (by omega)) (hmm 16 (by omega) (by omega))⟩
        · rw [← hsc]; simp [xs_I, upd]
        · rw [← hsm]; simp [xs_A, xs_I, upd]
        · by_cases e : i = l
          · subst e
            refine ⟨z.toNat, by omega, ?_, ?_⟩
            · rw [← hsc, show ((z.toNat : Nat) : Int) = z by omega]; simp [xs_A, xs_I, upd]
            · rw [← hsm, show ((z.toNat : Nat) : Int) = z by omega]; simp [xs_A, xs_I, upd]
          · obtain ⟨c, g1, g2, g3⟩ := hls i (by omega)
            refine ⟨c, g1, ?_, ?_⟩
            · rw [← hsc]; simpa [xs_A, xs_I, upd, e] using g2
            · rw [← hsm]; simpa [xs_A, xs_I, upd, e] using g3
      · rw [if_neg (show ¬ (l : Int) < 12 by omega), if_pos (show (l : Int) = 12 by omega)]
        exact st_no6 hq
  · rw [if_neg z0, if_neg z0]
    exact st_no4 hq
end
section
/-! the reference keeps a town, and takes it again -/
def kp (c : Nat) (st t : XS) : Prop := t.2 = st.2 ∧ (∀ k, k ≠ c → t.1 k = st.1 k) ∧ (∀ s, s < 6 → t.1 c s = st.1 1 s ∧ t.1 c (6 + s) = st.1 2 s ∧ t.1 c (12 + s) = st.1 3 s ∧ t.1 c (18 + s) = st.1 4 s) ∧ (∀ p, p < 8 → t.1 c (24 + p) = st.1 6 p ∧ t.1 c (32 + p) = st.1 7 p) ∧ t.1 c 40 = st.1 0 0 ∧ t.1 c 41 = st.1 0 5
def ag (c : Nat) (st t : XS) : Prop := t.2 = st.2 ∧ (∀ k, k = 5 ∨ 7 < k → t.1 k = st.1 k) ∧ (∀ j, j ≠ 0 → j ≠ 5 → t.1 0 j = st.1 0 j) ∧ (∀ s, s < 6 → t.1 1 s = st.1 c s ∧ t.1 2 s = st.1 c (6 + s) ∧ t.1 3 s = st.1 c (12 + s) ∧ t.1 4 s = st.1 c (18 + s)) ∧ (∀ p, p < 8 → t.1 6 p = st.1 c (24 + p) ∧ t.1 7 p = st.1 c (32 + p)) ∧ t.1 0 0 = st.1 c 40 ∧ t.1 0 5 = st.1 c 41
theorem zI_addl (a b : Nat) (x : Int32) (hx : x = zI (a : Int)) : x + zI (b : Int) = zI ((a + b : Nat) : Int) := by rw [hx, zI_add]; rfl
theorem upd_e (f : Nat → Int32) (k : Nat) (x : Int32) : upd f k x k = x := if_pos rfl
theorem upd_n {f : Nat → Int32} {k j : Nat} {x : Int32} (h : j ≠ k) : upd f k x j = f j := if_neg h
theorem xs_A_e (t : XS) (k : Nat) (f : Nat → Int32) : (xs_A t k f).1 k = f := if_pos rfl
theorem xs_A_n {t : XS} {k j : Nat} {f : Nat → Int32} (h : j ≠ k) : (xs_A t k f).1 j = t.1 j := if_neg h
theorem e_keep (st : XS) : ∃ t, F_Mod_keep st = some t ∧ kp 17 st t := by
  unfold F_Mod_keep
  have hl1 : ∃ r, xo_lp (fun q : (Int32 × XS) => F_Mod_keep_b2 q.1 q.2) 1000000 ((0 : Int32), st) = some r ∧ (r.2 = st.2 ∧ (∀ k, k ≠ 17 → r.1 k = st.1 k) ∧ (∀ s, s < 6 → r.1 17 s = st.1 1 s ∧ r.1 17 (6 + s) = st.1 2 s ∧ r.1 17 (12 + s) = st.1 3 s ∧ r.1 17 (18 + s) = st.1 4 s)) := by
    refine lp_inv (fun (i : Nat) (x : Int32 × XS) => x.1 = zI (i : Int) ∧ x.2.2 = st.2 ∧ (∀ k, k ≠ 17 → x.2.1 k = st.1 k) ∧ (∀ s, s < i → x.2.1 17 s = st.1 1 s ∧ x.2.1 17 (6 + s) = st.1 2 s ∧ x.2.1 17 (12 + s) = st.1 3 s ∧ x.2.1 17 (18 + s) = st.1 4 s)) _ 6 1000000 _ (by omega) ⟨rfl, rfl, fun _ _ => rfl, fun s hs => absurd hs (Nat.not_lt_zero s)⟩ ?_ ?_
    · rintro i ⟨x, t⟩ hi ⟨e1, e2, e3, e4⟩
      dsimp only at e1 e2 e3 e4 ⊢
      subst e1
      unfold F_Mod_keep_b2
      rw [show (6 : Int32) = zI ((6 : Nat) : Int) from rfl, if_neg (zI_ge1 (by omega) hi)]
      have a6 : zI ((6 : Nat) : Int) + zI (i : Int) = zI ((6 + i : Nat) : Int) := zI_addl 6 i _ rfl
      have a12 : (12 : Int32) + zI (i : Int) = zI ((12 + i : Nat) : Int) := zI_addl 12 i _ rfl
      have a18 : (18 : Int32) + zI (i : Int) = zI ((18 + i : Nat) : Int) := zI_addl 18 i _ rfl
      rw [a6, a12, a18, xo_rd_z (by omega) (by decide), Option.bind_some, xo_ck_z (show i < 46 by omega) (by decide), Option.bind_some, xo_nm_b, xo_rd_z (by omega) (by decide), Option.bind_some, xo_ck_z (show 6 + i < 46 by omega) (by decide), Option.bind_some, xo_nm_b, xo_rd_z (by omega) (by decide), Option.bind_some, xo_ck_z (show 12 + i < 46 by omega) (by decide), Option.bind_some, xo_nm_b, xo_rd_z (by omega) (by decide), Option.bind_some, xo_ck_z (show 18 + i < 46 by omega) (by decide), Option.bind_some, xo_nm_b, xo_nm_b, zI_suc]
      rw [zI_cl (show i < 2147483648 by omega), zI_cl (show 6 + i < 2147483648 by omega), zI_cl (show 12 + i < 2147483648 by omega), zI_cl (show 18 + i < 2147483648 by omega)]
      refine ⟨_, rfl, rfl, e2, fun k hk => ?_, fun s hs => ?_⟩
      · rw [xs_A_n hk, xs_A_n hk, xs_A_n hk, xs_A_n hk]; exact e3 k hk
      · simp only [xs_A_e, xs_A_n (show 2 ≠ 17 by decide), xs_A_n (show 3 ≠ 17 by decide), xs_A_n (show 4 ≠ 17 by decide), e3 1 (by decide), e3 2 (by decide), e3 3 (by decide), e3 4 (by decide)]
        by_cases es : s = i
        · subst es
          refine ⟨?_, ?_, ?_, ?_⟩
          · rw [upd_n (by omega), upd_n (by omega), upd_n (by omega), upd_e]
          · rw [upd_n (by omega), upd_n (by omega), upd_e]
          · rw [upd_n (by omega), upd_e]
          · rw [upd_e]
        · obtain ⟨g1, g2, g3, g4⟩ := e4 s (by omega)
          refine ⟨?_, ?_, ?_, ?_⟩
          · rw [upd_n (by omega), upd_n (by omega), upd_n (by omega), upd_n (by omega), g1]
          · rw [upd_n (by omega), upd_n (by omega), upd_n (by omega), upd_n (by omega), g2]
          · rw [upd_n (by omega), upd_n (by omega), upd_n (by omega), upd_n (by omega), g3]
          · rw [upd_n (by omega), upd_n (by omega), upd_n (by omega), upd_n (by omega), g4]
    · rintro ⟨x, t⟩ ⟨e1, e2, e3, e4⟩
      dsimp only at e1 e2 e3 e4 ⊢
      subst e1
      unfold F_Mod_keep_b2
      rw [if_pos (show (6 : Int32) ≤ zI ((6 : Nat) : Int) by decide)]
      exact ⟨_, rfl, e2, e3, e4⟩
  obtain ⟨t1, h1, b1, b2, b3⟩ := hl1
  have hl2 : ∃ r, xo_lp (fun q : (Int32 × XS) => F_Mod_keep_b61 q.1 q.2) 1000000 ((0 : Int32), t1) = some r ∧ (r.2 = st.2 ∧ (∀ k, k ≠ 17 → r.1 k = st.1 k) ∧ (∀ s, s < 24 → r.1 17 s = t1.1 17 s) ∧ (∀ p, p < 8 → r.1 17 (24 + p) = st.1 6 p ∧ r.1 17 (32 + p) = st.1 7 p)) := by
    refine lp_inv (fun (i : Nat) (x : Int32 × XS) => x.1 = zI (i : Int) ∧ x.2.2 = st.2 ∧ (∀ k, k ≠ 17 → x.2.1 k = st.1 k) ∧ (∀ s, s < 24 → x.2.1 17 s = t1.1 17 s) ∧ (∀ p, p < i → x.2.1 17 (24 + p) = st.1 6 p ∧ x.2.1 17 (32 + p) = st.1 7 p)) _ 8 1000000 _ (by omega) ⟨rfl, b1, b2, fun _ _ => rfl, fun s hs => absurd hs (Nat.not_lt_zero s)⟩ ?_ ?_
    · rintro i ⟨x, t⟩ hi ⟨e1, e2, e3, e5, e4⟩
      dsimp only at e1 e2 e3 e4 e5 ⊢
      subst e1
      unfold F_Mod_keep_b61
      rw [show (8 : Int32) = zI ((8 : Nat) : Int) from rfl, if_neg (zI_ge1 (by omega) hi)]
      have a24 : (24 : Int32) + zI (i : Int) = zI ((24 + i : Nat) : Int) := zI_addl 24 i _ rfl
      have a32 : (32 : Int32) + zI (i : Int) = zI ((32 + i : Nat) : Int) := zI_addl 32 i _ rfl
      rw [a24, a32, xo_rd_z (by omega) (by decide), Option.bind_some, xo_ck_z (show 24 + i < 46 by omega) (by decide), Option.bind_some, xo_nm_b, xo_rd_z (by omega) (by decide), Option.bind_some, xo_ck_z (show 32 + i < 46 by omega) (by decide), Option.bind_some, xo_nm_b, xo_nm_b, zI_suc]
      rw [zI_cl (show 24 + i < 2147483648 by omega), zI_cl (show 32 + i < 2147483648 by omega)]
      refine ⟨_, rfl, rfl, e2, fun k hk => ?_, fun s hs => ?_, fun p hp => ?_⟩
      · rw [xs_A_n hk, xs_A_n hk]; exact e3 k hk
      · simp only [xs_A_e]
        rw [upd_n (by omega), upd_n (by omega)]; exact e5 s hs
      · simp only [xs_A_e, xs_A_n (show 7 ≠ 17 by decide), e3 6 (by decide), e3 7 (by decide)]
        by_cases es : p = i
        · subst es
          refine ⟨?_, ?_⟩
          · rw [upd_n (by omega), upd_e]
          · rw [upd_e]
        · obtain ⟨g1, g2⟩ := e4 p (by omega)
          refine ⟨?_, ?_⟩
          · rw [upd_n (by omega), upd_n (by omega), g1]
          · rw [upd_n (by omega), upd_n (by omega), g2]
    · rintro ⟨x, t⟩ ⟨e1, e2, e3, e5, e4⟩
      dsimp only at e1 e2 e3 e4 e5 ⊢
      subst e1
      unfold F_Mod_keep_b61
      rw [if_pos (show (8 : Int32) ≤ zI ((8 : Nat) : Int) by decide)]
      exact ⟨_, rfl, e2, e3, e5, e4⟩
  obtain ⟨t2, h2, d1, d2, d3, d4⟩ := hl2
  rw [h1, Option.bind_some, h2, Option.bind_some]
  have e40 : xo_ck 46 (40 : Int32) = some () := rfl
  have e41 : xo_ck 46 (41 : Int32) = some () := rfl
  have f40 : (40 : Int32).toNatClampNeg = 40 := rfl
  have f41 : (41 : Int32).toNatClampNeg = 41 := rfl
  rw [e40, Option.bind_some, xo_nm_b, e41, Option.bind_some, xo_nm_b, f40, f41]
  refine ⟨_, rfl, d1, fun k hk => ?_, fun s hs => ?_, fun p hp => ?_, ?_, ?_⟩
  · rw [xs_A_n hk, xs_A_n hk]; exact d2 k hk
  · simp only [xs_A_e]
    obtain ⟨g1, g2, g3, g4⟩ := b3 s hs
    refine ⟨?_, ?_, ?_, ?_⟩
    · rw [upd_n (by omega), upd_n (by omega), d3 _ (by omega), g1]
    · rw [upd_n (by omega), upd_n (by omega), d3 _ (by omega), g2]
    · rw [upd_n (by omega), upd_n (by omega), d3 _ (by omega), g3]
    · rw [upd_n (by omega), upd_n (by omega), d3 _ (by omega), g4]
  · simp only [xs_A_e]
    obtain ⟨g1, g2⟩ := d4 p hp
    refine ⟨?_, ?_⟩
    · rw [upd_n (by omega), upd_n (by omega), g1]
    · rw [upd_n (by omega), upd_n (by omega), g2]
  · simp only [xs_A_e]
    rw [upd_n (by omega), upd_e, d2 0 (by decide)]
  · simp only [xs_A_e]
    rw [upd_e, xs_A_n (by decide), d2 0 (by decide)]
theorem e_keep_v1 (st : XS) : ∃ t, F_Mod_keep_v1 st = some t ∧ kp 16 st t := by
  unfold F_Mod_keep_v1
  have hl1 : ∃ r, xo_lp (fun q : (Int32 × XS) => F_Mod_keep_v1_b2 q.1 q.2) 1000000 ((0 : Int32), st) = some r ∧ (r.2 = st.2 ∧ (∀ k, k ≠ 16 → r.1 k = st.1 k) ∧ (∀ s, s < 6 → r.1 16 s = st.1 1 s ∧ r.1 16 (6 + s) = st.1 2 s ∧ r.1 16 (12 + s) = st.1 3 s ∧ r.1 16 (18 + s) = st.1 4 s)) := by
    refine lp_inv (fun (i : Nat) (x : Int32 × XS) => x.1 = zI (i : Int) ∧ x.2.2 = st.2 ∧ (∀ k, k ≠ 16 → x.2.1 k = st.1 k) ∧ (∀ s, s < i → x.2.1 16 s = st.1 1 s ∧ x.2.1 16 (6 + s) = st.1 2 s ∧ x.2.1 16 (12 + s) = st.1 3 s ∧ x.2.1 16 (18 + s) = st.1 4 s)) _ 6 1000000 _ (by omega) ⟨rfl, rfl, fun _ _ => rfl, fun s hs => absurd hs (Nat.not_lt_zero s)⟩ ?_ ?_
    · rintro i ⟨x, t⟩ hi ⟨e1, e2, e3, e4⟩
      dsimp only at e1 e2 e3 e4 ⊢
      subst e1
      unfold F_Mod_keep_v1_b2
      rw [show (6 : Int32) = zI ((6 : Nat) : Int) from rfl, if_neg (zI_ge1 (by omega) hi)]
      have a6 : zI ((6 : Nat) : Int) + zI (i : Int) = zI ((6 + i : Nat) : Int) := zI_addl 6 i _ rfl
      have a12 : (12 : Int32) + zI (i : Int) = zI ((12 + i : Nat) : Int) := zI_addl 12 i _ rfl
      have a18 : (18 : Int32) + zI (i : Int) = zI ((18 + i : Nat) : Int) := zI_addl 18 i _ rfl
      rw [a6, a12, a18, xo_rd_z (by omega) (by decide), Option.bind_some, xo_ck_z (show i < 46 by omega) (by decide), Option.bind_some, xo_nm_b, xo_rd_z (by omega) (by decide), Option.bind_some, xo_ck_z (show 6 + i < 46 by omega) (by decide), Option.bind_some, xo_nm_b, xo_rd_z (by omega) (by decide), Option.bind_some, xo_ck_z (show 12 + i < 46 by omega) (by decide), Option.bind_some, xo_nm_b, xo_rd_z (by omega) (by decide), Option.bind_some, xo_ck_z (show 18 + i < 46 by omega) (by decide), Option.bind_some, xo_nm_b, xo_nm_b, zI_suc]
      rw [zI_cl (show i < 2147483648 by omega), zI_cl (show 6 + i < 2147483648 by omega), zI_cl (show 12 + i < 2147483648 by omega), zI_cl (show 18 + i < 2147483648 by omega)]
      refine ⟨_, rfl, rfl, e2, fun k hk => ?_, fun s hs => ?_⟩
      · rw [xs_A_n hk, xs_A_n hk, xs_A_n hk, xs_A_n hk]; exact e3 k hk
      · simp only [xs_A_e, xs_A_n (show 2 ≠ 16 by decide), xs_A_n (show 3 ≠ 16 by decide), xs_A_n (show 4 ≠ 16 by decide), e3 1 (by decide), e3 2 (by decide), e3 3 (by decide), e3 4 (by decide)]
        by_cases es : s = i
        · subst es
          refine ⟨?_, ?_, ?_, ?_⟩
          · rw [upd_n (by omega), upd_n (by omega), upd_n (by omega), upd_e]
          · rw [upd_n (by omega), upd_n (by omega), upd_e]
          · rw [upd_n (by omega), upd_e]
          · rw [upd_e]
        · obtain ⟨g1, g2, g3, g4⟩ := e4 s (by omega)
          refine ⟨?_, ?_, ?_, ?_⟩
          · rw [upd_n (by omega), upd_n (by omega), upd_n (by omega), upd_n (by omega), g1]
          · rw [upd_n (by omega), upd_n (by omega), upd_n (by omega), upd_n (by omega), g2]
          · rw [upd_n (by omega), upd_n (by omega), upd_n (by omega), upd_n (by omega), g3]
          · rw [upd_n (by omega), upd_n (by omega), upd_n (by omega), upd_n (by omega), g4]
    · rintro ⟨x, t⟩ ⟨e1, e2, e3, e4⟩
      dsimp only at e1 e2 e3 e4 ⊢
      subst e1
      unfold F_Mod_keep_v1_b2
      rw [if_pos (show (6 : Int32) ≤ zI ((6 : Nat) : Int) by decide)]
      exact ⟨_, rfl, e2, e3, e4⟩
  obtain ⟨t1, h1, b1, b2, b3⟩ := hl1
  have hl2 : ∃ r, xo_lp (fun q : (Int32 × XS) => F_Mod_keep_v1_b61 q.1 q.2) 1000000 ((0 : Int32), t1) = some r ∧ (r.2 = st.2 ∧ (∀ k, k ≠ 16 → r.1 k = st.1 k) ∧ (∀ s, s < 24 → r.1 16 s = t1.1 16 s) ∧ (∀ p, p < 8 → r.1 16 (24 + p) = st.1 6 p ∧ r.1 16 (32 + p) = st.1 7 p)) := by
    refine lp_inv (fun (i : Nat) (x : Int32 × XS) => x.1 = zI (i : Int) ∧ x.2.2 = st.2 ∧ (∀ k, k ≠ 16 → x.2.1 k = st.1 k) ∧ (∀ s, s < 24 → x.2.1 16 s = t1.1 16 s) ∧ (∀ p, p < i → x.2.1 16 (24 + p) = st.1 6 p ∧ x.2.1 16 (32 + p) = st.1 7 p)) _ 8 1000000 _ (by omega) ⟨rfl, b1, b2, fun _ _ => rfl, fun s hs => absurd hs (Nat.not_lt_zero s)⟩ ?_ ?_
    · rintro i ⟨x, t⟩ hi ⟨e1, e2, e3, e5, e4⟩
      dsimp only at e1 e2 e3 e4 e5 ⊢
      subst e1
      unfold F_Mod_keep_v1_b61
      rw [show (8 : Int32) = zI ((8 : Nat) : Int) from rfl, if_neg (zI_ge1 (by omega) hi)]
      have a24 : (24 : Int32) + zI (i : Int) = zI ((24 + i : Nat) : Int) := zI_addl 24 i _ rfl
      have a32 : (32 : Int32) + zI (i : Int) = zI ((32 + i : Nat) : Int) := zI_addl 32 i _ rfl
      rw [a24, a32, xo_rd_z (by omega) (by decide), Option.bind_some, xo_ck_z (show 24 + i < 46 by omega) (by decide), Option.bind_some, xo_nm_b, xo_rd_z (by omega) (by decide), Option.bind_some, xo_ck_z (show 32 + i < 46 by omega) (by decide), Option.bind_some, xo_nm_b, xo_nm_b, zI_suc]
      rw [zI_cl (show 24 + i < 2147483648 by omega), zI_cl (show 32 + i < 2147483648 by omega)]
      refine ⟨_, rfl, rfl, e2, fun k hk => ?_, fun s hs => ?_, fun p hp => ?_⟩
      · rw [xs_A_n hk, xs_A_n hk]; exact e3 k hk
      · simp only [xs_A_e]
        rw [upd_n (by omega), upd_n (by omega)]; exact e5 s hs
      · simp only [xs_A_e, xs_A_n (show 7 ≠ 16 by decide), e3 6 (by decide), e3 7 (by decide)]
        by_cases es : p = i
        · subst es
          refine ⟨?_, ?_⟩
          · rw [upd_n (by omega), upd_e]
          · rw [upd_e]
        · obtain ⟨g1, g2⟩ := e4 p (by omega)
          refine ⟨?_, ?_⟩
          · rw [upd_n (by omega), upd_n (by omega), g1]
          · rw [upd_n (by omega), upd_n (by omega), g2]
    · rintro ⟨x, t⟩ ⟨e1, e2, e3, e5, e4⟩
      dsimp only at e1 e2 e3 e4 e5 ⊢
      subst e1
      unfold F_Mod_keep_v1_b61
      rw [if_pos (show (8 : Int32) ≤ zI ((8 : Nat) : Int) by decide)]
      exact ⟨_, rfl, e2, e3, e5, e4⟩
  obtain ⟨t2, h2, d1, d2, d3, d4⟩ := hl2
  rw [h1, Option.bind_some, h2, Option.bind_some]
  have e40 : xo_ck 46 (40 : Int32) = some () := rfl
  have e41 : xo_ck 46 (41 : Int32) = some () := rfl
  have f40 : (40 : Int32).toNatClampNeg = 40 := rfl
  have f41 : (41 : Int32).toNatClampNeg = 41 := rfl
  rw [e40, Option.bind_some, xo_nm_b, e41, Option.bind_some, xo_nm_b, f40, f41]
  refine ⟨_, rfl, d1, fun k hk => ?_, fun s hs => ?_, fun p hp => ?_, ?_, ?_⟩
  · rw [xs_A_n hk, xs_A_n hk]; exact d2 k hk
  · simp only [xs_A_e]
    obtain ⟨g1, g2, g3, g4⟩ := b3 s hs
    refine ⟨?_, ?_, ?_, ?_⟩
    · rw [upd_n (by omega), upd_n (by omega), d3 _ (by omega), g1]
    · rw [upd_n (by omega), upd_n (by omega), d3 _ (by omega), g2]
    · rw [upd_n (by omega), upd_n (by omega), d3 _ (by omega), g3]
    · rw [upd_n (by omega), upd_n (by omega), d3 _ (by omega), g4]
  · simp only [xs_A_e]
    obtain ⟨g1, g2⟩ := d4 p hp
    refine ⟨?_, ?_⟩
    · rw [upd_n (by omega), upd_n (by omega), g1]
    · rw [upd_n (by omega), upd_n (by omega), g2]
  · simp only [xs_A_e]
    rw [upd_n (by omega), upd_e, d2 0 (by decide)]
  · simp only [xs_A_e]
    rw [upd_e, xs_A_n (by decide), d2 0 (by decide)]
theorem e_again (st : XS) : ∃ t, F_Mod_again st = some t ∧ ag 17 st t := by
  unfold F_Mod_again
  have hl1 : ∃ r, xo_lp (fun q : (Int32 × XS) => F_Mod_again_b2 q.1 q.2) 1000000 ((0 : Int32), st) = some r ∧ (r.2 = st.2 ∧ (∀ k, k = 0 ∨ 4 < k → r.1 k = st.1 k) ∧ (∀ s, s < 6 → r.1 1 s = st.1 17 s ∧ r.1 2 s = st.1 17 (6 + s) ∧ r.1 3 s = st.1 17 (12 + s) ∧ r.1 4 s = st.1 17 (18 + s))) := by
    refine lp_inv (fun (i : Nat) (x : Int32 × XS) => x.1 = zI (i : Int) ∧ x.2.2 = st.2 ∧ (∀ k, k = 0 ∨ 4 < k → x.2.1 k = st.1 k) ∧ (∀ s, s < i → x.2.1 1 s = st.1 17 s ∧ x.2.1 2 s = st.1 17 (6 + s) ∧ x.2.1 3 s = st.1 17 (12 + s) ∧ x.2.1 4 s = st.1 17 (18 + s))) _ 6 1000000 _ (by omega) ⟨rfl, rfl, fun _ _ => rfl, fun s hs => absurd hs (Nat.not_lt_zero s)⟩ ?_ ?_
    · rintro i ⟨x, t⟩ hi ⟨e1, e2, e3, e4⟩
      dsimp only at e1 e2 e3 e4 ⊢
      subst e1
      unfold F_Mod_again_b2
      rw [show (6 : Int32) = zI ((6 : Nat) : Int) from rfl, if_neg (zI_ge1 (by omega) hi)]
      have a6 : zI ((6 : Nat) : Int) + zI (i : Int) = zI ((6 + i : Nat) : Int) := zI_addl 6 i _ rfl
      have a12 : (12 : Int32) + zI (i : Int) = zI ((12 + i : Nat) : Int) := zI_addl 12 i _ rfl
      have a18 : (18 : Int32) + zI (i : Int) = zI ((18 + i : Nat) : Int) := zI_addl 18 i _ rfl
      rw [a6, a12, a18, xo_rd_z (show i < 46 by omega) (by decide), Option.bind_some, xo_ck_z (show i < 7 by omega) (by decide), Option.bind_some, xo_nm_b, xo_rd_z (show 6 + i < 46 by omega) (by decide), Option.bind_some, Option.bind_some, xo_nm_b, xo_rd_z (show 12 + i < 46 by omega) (by decide), Option.bind_some, Option.bind_some, xo_nm_b, xo_rd_z (show 18 + i < 46 by omega) (by decide), Option.bind_some, Option.bind_some, xo_nm_b, xo_nm_b, zI_suc]
      rw [zI_cl (show i < 2147483648 by omega)]
      refine ⟨_, rfl, rfl, e2, fun k hk => ?_, fun s hs => ?_⟩
      · rw [xs_A_n (by omega), xs_A_n (by omega), xs_A_n (by omega), xs_A_n (by omega)]; exact e3 k hk
      · simp only [xs_A_e, xs_A_n (show 1 ≠ 2 by decide), xs_A_n (show 1 ≠ 3 by decide), xs_A_n (show 1 ≠ 4 by decide), xs_A_n (show 2 ≠ 1 by decide), xs_A_n (show 2 ≠ 3 by decide), xs_A_n (show 2 ≠ 4 by decide), xs_A_n (show 3 ≠ 1 by decide), xs_A_n (show 3 ≠ 2 by decide), xs_A_n (show 3 ≠ 4 by decide), xs_A_n (show 4 ≠ 1 by decide), xs_A_n (show 4 ≠ 2 by decide), xs_A_n (show 4 ≠ 3 by decide), xs_A_n (show 17 ≠ 1 by decide), xs_A_n (show 17 ≠ 2 by decide), xs_A_n (show 17 ≠ 3 by decide), xs_A_n (show 17 ≠ 4 by decide), e3 17 (by decide)]
        by_cases es : s = i
        · subst es
          rw [upd_e, upd_e, upd_e, upd_e]
          exact ⟨rfl, rfl, rfl, rfl⟩
        · rw [upd_n es, upd_n es, upd_n es, upd_n es]
          exact e4 s (by omega)
    · rintro ⟨x, t⟩ ⟨e1, e2, e3, e4⟩
      dsimp only at e1 e2 e3 e4 ⊢
      subst e1
      unfold F_Mod_again_b2
      rw [if_pos (show (6 : Int32) ≤ zI ((6 : Nat) : Int) by decide)]
      exact ⟨_, rfl, e2, e3, e4⟩
  obtain ⟨t1, h1, b1, b2, b3⟩ := hl1
  have hl2 : ∃ r, xo_lp (fun q : (Int32 × XS) => F_Mod_again_b61 q.1 q.2) 1000000 ((0 : Int32), t1) = some r ∧ (r.2 = st.2 ∧ (∀ k, k = 0 ∨ k = 5 ∨ 7 < k → r.1 k = st.1 k) ∧ (∀ k, 1 ≤ k → k ≤ 4 → r.1 k = t1.1 k) ∧ (∀ p, p < 8 → r.1 6 p = st.1 17 (24 + p) ∧ r.1 7 p = st.1 17 (32 + p))) := by
    refine lp_inv (fun (i : Nat) (x : Int32 × XS) => x.1 = zI (i : Int) ∧ x.2.2 = st.2 ∧ (∀ k, k = 0 ∨ k = 5 ∨ 7 < k → x.2.1 k = st.1 k) ∧ (∀ k, 1 ≤ k → k ≤ 4 → x.2.1 k = t1.1 k) ∧ (∀ p, p < i → x.2.1 6 p = st.1 17 (24 + p) ∧ x.2.1 7 p = st.1 17 (32 + p))) _ 8 1000000 _ (by omega) ⟨rfl, b1, fun k hk => b2 k (by omega), fun _ _ _ => rfl, fun s hs => absurd hs (Nat.not_lt_zero s)⟩ ?_ ?_
    · rintro i ⟨x, t⟩ hi ⟨e1, e2, e3, e5, e4⟩
      dsimp only at e1 e2 e3 e4 e5 ⊢
      subst e1
      unfold F_Mod_again_b61
      rw [show (8 : Int32) = zI ((8 : Nat) : Int) from rfl, if_neg (zI_ge1 (by omega) hi)]
      have a24 : (24 : Int32) + zI (i : Int) = zI ((24 + i : Nat) : Int) := zI_addl 24 i _ rfl
      have a32 : (32 : Int32) + zI (i : Int) = zI ((32 + i : Nat) : Int) := zI_addl 32 i _ rfl
      rw [a24, a32, xo_rd_z (show 24 + i < 46 by omega) (by decide), Option.bind_some, xo_ck_z (show i < 8 by omega) (by decide), Option.bind_some, xo_nm_b, xo_rd_z (show 32 + i < 46 by omega) (by decide), Option.bind_some, Option.bind_some, xo_nm_b, xo_nm_b, zI_suc]
      rw [zI_cl (show i < 2147483648 by omega)]
      refine ⟨_, rfl, rfl, e2, fun k hk => ?_, fun k g1 g2 => ?_, fun p hp => ?_⟩
      · rw [xs_A_n (by omega), xs_A_n (by omega)]; exact e3 k hk
      · rw [xs_A_n (by omega), xs_A_n (by omega)]; exact e5 k g1 g2
      · simp only [xs_A_e, xs_A_n (show 6 ≠ 7 by decide), xs_A_n (show 7 ≠ 6 by decide), xs_A_n (show 17 ≠ 6 by decide), xs_A_n (show 17 ≠ 7 by decide), e3 17 (by decide)]
        by_cases es : p = i
        · subst es
          rw [upd_e, upd_e]
          exact ⟨rfl, rfl⟩
        · rw [upd_n es, upd_n es]
          exact e4 p (by omega)
    · rintro ⟨x, t⟩ ⟨e1, e2, e3, e5, e4⟩
      dsimp only at e1 e2 e3 e4 e5 ⊢
      subst e1
      unfold F_Mod_again_b61
      rw [if_pos (show (8 : Int32) ≤ zI ((8 : Nat) : Int) by decide)]
      exact ⟨_, rfl, e2, e3, e5, e4⟩
  obtain ⟨t2, h2, d1, d2, d3, d4⟩ := hl2
  rw [h1, Option.bind_some, h2, Option.bind_some]
  have e40 : ∀ f : Nat → Int32, xo_rd f 46 (40 : Int32) = some (f 40) := fun f => xo_rd_z (k := 40) (by decide) (by decide)
  have e41 : ∀ f : Nat → Int32, xo_rd f 46 (41 : Int32) = some (f 41) := fun f => xo_rd_z (k := 41) (by decide) (by decide)
  rw [e40, Option.bind_some, xo_nm_b, e41, Option.bind_some, xo_nm_b]
  have hi : ∀ k, k ≠ 0 → ∀ a b, (xs_I (xs_I t2 0 0 a) 0 5 b).1 k = t2.1 k := fun k hk a b => by simp [xs_I, hk]
  refine ⟨_, rfl, d1, fun k hk => ?_, fun j g1 g2 => ?_, fun s hs => ?_, fun p hp => ?_, ?_, ?_⟩
  · rw [hi k (by omega)]; exact d2 k (by omega)
  · simp only [xs_I, reduceIte]
    rw [upd_n g2, upd_n g1, d2 0 (by omega)]
  · rw [hi 1 (by omega), hi 2 (by omega), hi 3 (by omega), hi 4 (by omega), d3 1 (by omega) (by omega), d3 2 (by omega) (by omega), d3 3 (by omega) (by omega), d3 4 (by omega) (by omega)]
    exact b3 s hs
  · rw [hi 6 (by omega), hi 7 (by omega)]
    exact d4 p hp
  · simp only [xs_I, reduceIte]
    rw [upd_n (by omega), upd_e, d2 17 (by omega)]
  · simp only [xs_I, reduceIte]
    rw [upd_e, if_neg (by decide), d2 17 (by omega)]
theorem e_again_v1 (st : XS) : ∃ t, F_Mod_again_v1 st = some t ∧ ag 16 st t := by
  unfold F_Mod_again_v1
  have hl1 : ∃ r, xo_lp (fun q : (Int32 × XS) => F_Mod_again_v1_b2 q.1 q.2) 1000000 ((0 : Int32), st) = some r ∧ (r.2 = st.2 ∧ (∀ k, k = 0 ∨ 4 < k → r.1 k = st.1 k) ∧ (∀ s, s < 6 → r.1 1 s = st.1 16 s ∧ r.1 2 s = st.1 16 (6 + s) ∧ r.1 3 s = st.1 16 (12 + s) ∧ r.1 4 s = st.1 16 (18 + s))) := by
    refine lp_inv (fun (i : Nat) (x : Int32 × XS) => x.1 = zI (i : Int) ∧ x.2.2 = st.2 ∧ (∀ k, k = 0 ∨ 4 < k → x.2.1 k = st.1 k) ∧ (∀ s, s < i → x.2.1 1 s = st.1 16 s ∧ x.2.1 2 s = st.1 16 (6 + s) ∧ x.2.1 3 s = st.1 16 (12 + s) ∧ x.2.1 4 s = st.1 16 (18 + s))) _ 6 1000000 _ (by omega) ⟨rfl, rfl, fun _ _ => rfl, fun s hs => absurd hs (Nat.not_lt_zero s)⟩ ?_ ?_
    · rintro i ⟨x, t⟩ hi ⟨e1, e2, e3, e4⟩
      dsimp only at e1 e2 e3 e4 ⊢
      subst e1
      unfold F_Mod_again_v1_b2
      rw [show (6 : Int32) = zI ((6 : Nat) : Int) from rfl, if_neg (zI_ge1 (by omega) hi)]
      have a6 : zI ((6 : Nat) : Int) + zI (i : Int) = zI ((6 + i : Nat) : Int) := zI_addl 6 i _ rfl
      have a12 : (12 : Int32) + zI (i : Int) = zI ((12 + i : Nat) : Int) := zI_addl 12 i _ rfl
      have a18 : (18 : Int32) + zI (i : Int) = zI ((18 + i : Nat) : Int) := zI_addl 18 i _ rfl
      rw [a6, a12, a18, xo_rd_z (show i < 46 by omega) (by decide), Option.bind_some, xo_ck_z (show i < 7 by omega) (by decide), Option.bind_some, xo_nm_b, xo_rd_z (show 6 + i < 46 by omega) (by decide), Option.bind_some, Option.bind_some, xo_nm_b, xo_rd_z (show 12 + i < 46 by omega) (by decide), Option.bind_some, Option.bind_some, xo_nm_b, xo_rd_z (show 18 + i < 46 by omega) (by decide), Option.bind_some, Option.bind_some, xo_nm_b, xo_nm_b, zI_suc]
      rw [zI_cl (show i < 2147483648 by omega)]
      refine ⟨_, rfl, rfl, e2, fun k hk => ?_, fun s hs => ?_⟩
      · rw [xs_A_n (by omega), xs_A_n (by omega), xs_A_n (by omega), xs_A_n (by omega)]; exact e3 k hk
      · simp only [xs_A_e, xs_A_n (show 1 ≠ 2 by decide), xs_A_n (show 1 ≠ 3 by decide), xs_A_n (show 1 ≠ 4 by decide), xs_A_n (show 2 ≠ 1 by decide), xs_A_n (show 2 ≠ 3 by decide), xs_A_n (show 2 ≠ 4 by decide), xs_A_n (show 3 ≠ 1 by decide), xs_A_n (show 3 ≠ 2 by decide), xs_A_n (show 3 ≠ 4 by decide), xs_A_n (show 4 ≠ 1 by decide), xs_A_n (show 4 ≠ 2 by decide), xs_A_n (show 4 ≠ 3 by decide), xs_A_n (show 16 ≠ 1 by decide), xs_A_n (show 16 ≠ 2 by decide), xs_A_n (show 16 ≠ 3 by decide), xs_A_n (show 16 ≠ 4 by decide), e3 16 (by decide)]
        by_cases es : s = i
        · subst es
          rw [upd_e, upd_e, upd_e, upd_e]
          exact ⟨rfl, rfl, rfl, rfl⟩
        · rw [upd_n es, upd_n es, upd_n es, upd_n es]
          exact e4 s (by omega)
    · rintro ⟨x, t⟩ ⟨e1, e2, e3, e4⟩
      dsimp only at e1 e2 e3 e4 ⊢
      subst e1
      unfold F_Mod_again_v1_b2
      rw [if_pos (show (6 : Int32) ≤ zI ((6 : Nat) : Int) by decide)]
      exact ⟨_, rfl, e2, e3, e4⟩
  obtain ⟨t1, h1, b1, b2, b3⟩ := hl1
  have hl2 : ∃ r, xo_lp (fun q : (Int32 × XS) => F_Mod_again_v1_b61 q.1 q.2) 1000000 ((0 : Int32), t1) = some r ∧ (r.2 = st.2 ∧ (∀ k, k = 0 ∨ k = 5 ∨ 7 < k → r.1 k = st.1 k) ∧ (∀ k, 1 ≤ k → k ≤ 4 → r.1 k = t1.1 k) ∧ (∀ p, p < 8 → r.1 6 p = st.1 16 (24 + p) ∧ r.1 7 p = st.1 16 (32 + p))) := by
    refine lp_inv (fun (i : Nat) (x : Int32 × XS) => x.1 = zI (i : Int) ∧ x.2.2 = st.2 ∧ (∀ k, k = 0 ∨ k = 5 ∨ 7 < k → x.2.1 k = st.1 k) ∧ (∀ k, 1 ≤ k → k ≤ 4 → x.2.1 k = t1.1 k) ∧ (∀ p, p < i → x.2.1 6 p = st.1 16 (24 + p) ∧ x.2.1 7 p = st.1 16 (32 + p))) _ 8 1000000 _ (by omega) ⟨rfl, b1, fun k hk => b2 k (by omega), fun _ _ _ => rfl, fun s hs => absurd hs (Nat.not_lt_zero s)⟩ ?_ ?_
    · rintro i ⟨x, t⟩ hi ⟨e1, e2, e3, e5, e4⟩
      dsimp only at e1 e2 e3 e4 e5 ⊢
      subst e1
      unfold F_Mod_again_v1_b61
      rw [show (8 : Int32) = zI ((8 : Nat) : Int) from rfl, if_neg (zI_ge1 (by omega) hi)]
      have a24 : (24 : Int32) + zI (i : Int) = zI ((24 + i : Nat) : Int) := zI_addl 24 i _ rfl
      have a32 : (32 : Int32) + zI (i : Int) = zI ((32 + i : Nat) : Int) := zI_addl 32 i _ rfl
      rw [a24, a32, xo_rd_z (show 24 + i < 46 by omega) (by decide), Option.bind_some, xo_ck_z (show i < 8 by omega) (by decide), Option.bind_some, xo_nm_b, xo_rd_z (show 32 + i < 46 by omega) (by decide), Option.bind_some, Option.bind_some, xo_nm_b, xo_nm_b, zI_suc]
      rw [zI_cl (show i < 2147483648 by omega)]
      refine ⟨_, rfl, rfl, e2, fun k hk => ?_, fun k g1 g2 => ?_, fun p hp => ?_⟩
      · rw [xs_A_n (by omega), xs_A_n (by omega)]; exact e3 k hk
      · rw [xs_A_n (by omega), xs_A_n (by omega)]; exact e5 k g1 g2
      · simp only [xs_A_e, xs_A_n (show 6 ≠ 7 by decide), xs_A_n (show 7 ≠ 6 by decide), xs_A_n (show 16 ≠ 6 by decide), xs_A_n (show 16 ≠ 7 by decide), e3 16 (by decide)]
        by_cases es : p = i
        · subst es
          rw [upd_e, upd_e]
          exact ⟨rfl, rfl⟩
        · rw [upd_n es, upd_n es]
          exact e4 p (by omega)
    · rintro ⟨x, t⟩ ⟨e1, e2, e3, e5, e4⟩
      dsimp only at e1 e2 e3 e4 e5 ⊢
      subst e1
      unfold F_Mod_again_v1_b61
      rw [if_pos (show (8 : Int32) ≤ zI ((8 : Nat) : Int) by decide)]
      exact ⟨_, rfl, e2, e3, e5, e4⟩
  obtain ⟨t2, h2, d1, d2, d3, d4⟩ := hl2
  rw [h1, Option.bind_some, h2, Option.bind_some]
  have e40 : ∀ f : Nat → Int32, xo_rd f 46 (40 : Int32) = some (f 40) := fun f => xo_rd_z (k := 40) (by decide) (by decide)
  have e41 : ∀ f : Nat → Int32, xo_rd f 46 (41 : Int32) = some (f 41) := fun f => xo_rd_z (k := 41) (by decide) (by decide)
  rw [e40, Option.bind_some, xo_nm_b, e41, Option.bind_some, xo_nm_b]
  have hi : ∀ k, k ≠ 0 → ∀ a b, (xs_I (xs_I t2 0 0 a) 0 5 b).1 k = t2.1 k := fun k hk a b => by simp [xs_I, hk]
  refine ⟨_, rfl, d1, fun k hk => ?_, fun j g1 g2 => ?_, fun s hs => ?_, fun p hp => ?_, ?_, ?_⟩
  · rw [hi k (by omega)]; exact d2 k (by omega)
  · simp only [xs_I, reduceIte]
    rw [upd_n g2, upd_n g1, d2 0 (by omega)]
  · rw [hi 1 (by omega), hi 2 (by omega), hi 3 (by omega), hi 4 (by omega), d3 1 (by omega) (by omega), d3 2 (by omega) (by omega), d3 3 (by omega) (by omega), d3 4 (by omega) (by omega)]
    exact b3 s hs
  · rw [hi 6 (by omega), hi 7 (by omega)]
    exact d4 p hp
  · simp only [xs_I, reduceIte]
    rw [upd_n (by omega), upd_e, d2 16 (by omega)]
  · simp only [xs_I, reduceIte]
    rw [upd_e, if_neg (by decide), d2 16 (by omega)]
end
section
/-! the image, and on from it -/
theorem cpy_lt {f g : Nat → Int32} {n s : Nat} (h : s < n) : va_cpy f g 0 0 n s = f s := by
  unfold va_cpy
  rw [if_pos ⟨Nat.zero_le s, by omega⟩]
  congr 1; omega
def cp (a b : Nat) (st t : XS) : Prop := t.2 = st.2 ∧ (∀ k, k < b ∨ b + 6 < k → t.1 k = st.1 k) ∧ t.1 b 4 = st.1 a 4 ∧ t.1 b 7 = st.1 a 7 ∧ (∀ s, s < 6 → t.1 (b + 1) s = st.1 (a + 1) s ∧ t.1 (b + 2) s = st.1 (a + 2) s ∧ t.1 (b + 3) s = st.1 (a + 3) s ∧ t.1 (b + 4) s = st.1 (a + 4) s) ∧ ∀ p, p < 8 → t.1 (b + 5) p = st.1 (a + 5) p ∧ t.1 (b + 6) p = st.1 (a + 6) p
theorem e_copy (st : XS) : ∃ t, F_Tow_copyFrom st = some t ∧ cp 1 8 st t := by
  unfold F_Tow_copyFrom
  simp only [xo_nm_b]
  refine ⟨_, rfl, rfl, fun k hk => ?_, ?_, ?_, fun s hs => ?_, fun p hp => ?_⟩
  · simp only [xs_A, xs_I]
    rw [if_neg (by omega), if_neg (by omega), if_neg (by omega), if_neg (by omega), if_neg (by omega), if_neg (by omega), if_neg (by omega), if_neg (by omega)]
  · simp [xs_A, xs_I, upd]
  · simp [xs_A, xs_I, upd]
  · simp [xs_A, xs_I, upd, cpy_lt hs]
  · simp [xs_A, xs_I, upd, cpy_lt hp]
theorem e_copy_v1 (st : XS) : ∃ t, F_Tow_copyFrom_v1 st = some t ∧ cp 8 1 st t := by
  unfold F_Tow_copyFrom_v1
  simp only [xo_nm_b]
  refine ⟨_, rfl, rfl, fun k hk => ?_, ?_, ?_, fun s hs => ?_, fun p hp => ?_⟩
  · simp only [xs_A, xs_I]
    rw [if_neg (by omega), if_neg (by omega), if_neg (by omega), if_neg (by omega), if_neg (by omega), if_neg (by omega), if_neg (by omega), if_neg (by omega)]
  · simp [xs_A, xs_I, upd]
  · simp [xs_A, xs_I, upd]
  · simp [xs_A, xs_I, upd, cpy_lt hs]
  · simp [xs_A, xs_I, upd, cpy_lt hp]
theorem e_copy_v2 (st : XS) : ∃ t, F_Tow_copyFrom_v2 st = some t ∧ cp 1 15 st t := by
  unfold F_Tow_copyFrom_v2
  simp only [xo_nm_b]
  refine ⟨_, rfl, rfl, fun k hk => ?_, ?_, ?_, fun s hs => ?_, fun p hp => ?_⟩
  · simp only [xs_A, xs_I]
    rw [if_neg (by omega), if_neg (by omega), if_neg (by omega), if_neg (by omega), if_neg (by omega), if_neg (by omega), if_neg (by omega), if_neg (by omega)]
  · simp [xs_A, xs_I, upd]
  · simp [xs_A, xs_I, upd]
  · simp [xs_A, xs_I, upd, cpy_lt hs]
  · simp [xs_A, xs_I, upd, cpy_lt hp]
theorem e_copy_v3 (st : XS) : ∃ t, F_Tow_copyFrom_v3 st = some t ∧ cp 15 1 st t := by
  unfold F_Tow_copyFrom_v3
  simp only [xo_nm_b]
  refine ⟨_, rfl, rfl, fun k hk => ?_, ?_, ?_, fun s hs => ?_, fun p hp => ?_⟩
  · simp only [xs_A, xs_I]
    rw [if_neg (by omega), if_neg (by omega), if_neg (by omega), if_neg (by omega), if_neg (by omega), if_neg (by omega), if_neg (by omega), if_neg (by omega)]
  · simp [xs_A, xs_I, upd]
  · simp [xs_A, xs_I, upd]
  · simp [xs_A, xs_I, upd, cpy_lt hs]
  · simp [xs_A, xs_I, upd, cpy_lt hp]
theorem s_image (sc sm : XS) (h : xz_RR sc sm) : ∃ (r : Int32) (sc2 sm2 : XS), F_All_image sc = some (r, sc2) ∧ F_Mod_image sm = some (r, sm2) ∧ xz_RR sc2 sm2 := by
  obtain ⟨⟨n, A, B, C, Kd, P, X, Y, h1⟩, h2, h3, h4, h5⟩ := h
  have hR := h1
  obtain ⟨hc, hok, hpl, hkd, hp, hn, hm, hpm⟩ := h1
  unfold F_All_image F_Mod_image
  obtain ⟨t1, g1, a1, a2, a3, a4, a5, a6⟩ := e_copy_v2 sc
  obtain ⟨t2, g2, b1, b2, b3, b4, b5, b6⟩ := e_keep_v1 (xs_I sm 0 15 (1 : Int32))
  rw [g1, Option.bind_some, xo_nm_b, xo_nm_b, g2, Option.bind_some]
  have h6 := hc.2.1
  have h8 := hp.2.1
  have hcI : ∀ k, k ≠ 0 → (xs_I t1 0 3 (1 : Int32)).1 k = t1.1 k := fun k hk => by simp [xs_I, hk]
  have hmI : ∀ k, k ≠ 0 → (xs_I sm 0 15 (1 : Int32)).1 k = sm.1 k := fun k hk => by simp [xs_I, hk]
  have hc0 : ∀ j, j ≠ 3 → (xs_I t1 0 3 (1 : Int32)).1 0 j = t1.1 0 j := fun j hj => by simp [xs_I, upd, hj]
  have hm0 : ∀ j, j ≠ 15 → (xs_I sm 0 15 (1 : Int32)).1 0 j = sm.1 0 j := fun j hj => by simp [xs_I, upd, hj]
  have hc1 : (xs_I t1 0 3 (1 : Int32)).1 0 3 = 1 := by simp [xs_I, upd]
  have hm1 : (xs_I sm 0 15 (1 : Int32)).1 0 15 = 1 := by simp [xs_I, upd]
  have hl : (xs_I t1 0 3 (1 : Int32)).2 = t1.2 := rfl
  generalize xs_I t1 0 3 (1 : Int32) = u1 at *
  generalize xs_I sm 0 15 (1 : Int32) = u2 at *
  refine ⟨zI (n : Int), u1, t2, ?_, ?_, ?_⟩
  · rw [hcI 1 (by decide), a2 1 (by omega), hc.1]
  · rw [b2 0 (by decide), hm0 0 (by decide), hn]
  · refine ⟨⟨n, A, B, C, Kd, P, X, Y, xR_of hR (fun k _ _ => by rw [hcI k (by omega), a2 k (by omega)]) (fun k _ _ => by rw [hcI k (by omega), a2 k (by omega)]) (hl.trans a1) (by rw [b2 0 (by decide), hm0 0 (by decide)]) (by rw [b2 0 (by decide), hm0 5 (by decide)]) (fun k hk => by rw [b2 k (by omega), hmI k (by omega)]) (fun s _ => by rw [b2 2 (by omega), b2 3 (by omega), b2 4 (by omega), hmI 2 (by omega), hmI 3 (by omega), hmI 4 (by omega)]; exact ⟨rfl, rfl, rfl⟩)⟩, xT_of h2 (by rw [hcI 28 (by omega), a2 28 (by omega)]) (by rw [hcI 29 (by omega), a2 29 (by omega)]) (by rw [b2 0 (by omega), hm0 8 (by omega)]) (by rw [b2 9 (by omega), hmI 9 (by omega)]), xW_of h3 (by rw [hc0 7 (by omega), a2 0 (by omega)]) (by rw [hcI 31 (by omega), a2 31 (by omega)]) (by rw [b2 0 (by omega), hm0 12 (by omega)]) (by rw [b2 13 (by omega), hmI 13 (by omega)]), xF_of h4 (by rw [hcI 32 (by omega), a2 32 (by omega)]) (by rw [b2 14 (by omega), hmI 14 (by omega)]), Or.inr ⟨hc1, by rw [b2 0 (by omega)]; exact hm1, n, A, B, C, Kd, P, X, Y, ⟨h6, h8, hc.2.2.2, hok⟩, ⟨?_, ?_, ?_, ?_⟩, fun s hs => ?_, fun p hpp => ?_⟩⟩
    · rw [hcI 15 (by omega), a3, hc.1]
    · rw [hcI 15 (by omega), a4, hp.1]
    · rw [b5, hm0 0 (by omega), hn]
    · rw [b6, hm0 5 (by omega), hpm.1]
    · obtain ⟨e1, e2, e3, e4⟩ := a5 s (by omega)
      obtain ⟨f1, f2, f3, f4⟩ := b3 s (by omega)
      obtain ⟨k1, k2, k3⟩ := hkd s hs
      obtain ⟨l1, l2, l3⟩ := hc.2.2.1 s hs
      obtain ⟨m1, m2, m3⟩ := hm.2.1 s hs
      refine ⟨⟨?_, ?_, ?_, ?_⟩, ⟨?_, ?_, ?_, ?_⟩, k3⟩
      · rw [hcI 16 (by omega)]; exact e1.trans k1
      · rw [hcI 17 (by omega)]; exact e2.trans l1
      · rw [hcI 18 (by omega)]; exact e3.trans l2
      · rw [hcI 19 (by omega)]; exact e4.trans l3
      · rw [f1, hmI 1 (by omega)]; exact k2
      · rw [f2, hmI 2 (by omega)]; exact m1
      · rw [f3, hmI 3 (by omega)]; exact m2
      · rw [f4, hmI 4 (by omega)]; exact m3
    · obtain ⟨e1, e2⟩ := a6 p (by omega)
      obtain ⟨f1, f2⟩ := b4 p (by omega)
      obtain ⟨k1, k2, k3, k4⟩ := hp.2.2 p hpp
      obtain ⟨l1, l2, -, -⟩ := hpm.2.2 p hpp
      refine ⟨?_, ?_, ?_, ?_, k3, k4⟩
      · rw [hcI 20 (by omega)]; exact e1.trans k1
      · rw [hcI 21 (by omega)]; exact e2.trans k2
      · rw [f1, hmI 6 (by omega)]; exact l1
      · rw [f2, hmI 7 (by omega)]; exact l2
theorem s_on (sc sm : XS) (h : xz_RR sc sm) : ∃ (r : Int32) (sc2 sm2 : XS), F_All_on sc = some (r, sc2) ∧ F_Mod_on sm = some (r, sm2) ∧ xz_RR sc2 sm2 := by
  have hq := h
  obtain ⟨-, h2, h3, h4, h5⟩ := h
  unfold F_All_on F_Mod_on
  rcases h5 with ⟨e1, e2⟩ | ⟨e1, e2, n, A, B, C, Kd, P, X, Y, hJ⟩
  · rw [if_pos e1, if_pos e2]
    exact st_no3 hq
  · rw [if_neg (by rw [e1]; decide), if_neg (by rw [e2]; decide)]
    obtain ⟨t1, g1, a1, a2, a3, a4, a5, a6⟩ := e_copy_v3 sc
    obtain ⟨t2, g2, b1, b2, b3, b4, b5, b6, b7⟩ := e_again_v1 sm
    obtain ⟨⟨h6, h8, hb, hok⟩, ⟨i1, i2, i3, i4⟩, hs, hp⟩ := id hJ
    have hcL : cL t1 n A B C := by
      refine ⟨a3.trans i1, h6, fun s hs9 => ?_, hb⟩
      obtain ⟨c1, c2, c3, c4⟩ := a5 s (by omega)
      obtain ⟨⟨d1, d2, d3, d4⟩, -, -⟩ := hs s hs9
      exact ⟨c2.trans d2, c3.trans d3, c4.trans d4⟩
    obtain ⟨t3, g3, c1, c2⟩ := e_measure hcL
    rw [g1, Option.bind_some, g2, Option.bind_some, g3, Option.bind_some]
    have hJ2 : xJ t3 t2 n A B C Kd P X Y := xJ_of hJ (fun k _ _ => by rw [c1 k (by omega), a2 k (by omega)]) (b2 16 (by omega))
    refine ⟨zI (n : Int), t3, t2, ?_, ?_, ⟨n, A, B, C, Kd, P, X, Y, ?_, hok, c2, fun s hs9 => ?_, ⟨?_, h8, fun p hpp => ?_⟩, b6.trans i3, ⟨by omega, fun s hs9 => ?_, hb⟩, ⟨b7.trans i4, h8, fun p hpp => ?_⟩⟩, ?_, ?_, ?_, Or.inr ⟨?_, ?_, n, A, B, C, Kd, P, X, Y, hJ2⟩⟩
    · rw [c1 1 (by omega), hcL.1]
    · rw [b6, i3]
    · unfold cL at *
      rw [c1 1 (by omega), c1 3 (by omega), c1 4 (by omega), c1 5 (by omega)]; exact hcL
    · obtain ⟨⟨d1, -, -, -⟩, ⟨d5, -, -, -⟩, d9⟩ := hs s hs9
      rw [c1 2 (by omega)]
      exact ⟨(a5 s (by omega)).1.trans d1, (b4 s (by omega)).1.trans d5, d9⟩
    · rw [c1 1 (by omega)]; exact a4.trans i2
    · obtain ⟨d1, d2, d3, d4, d5, d6⟩ := hp p hpp
      rw [c1 6 (by omega), c1 7 (by omega)]
      exact ⟨(a6 p (by omega)).1.trans d1, (a6 p (by omega)).2.trans d2, d5, d6⟩
    · obtain ⟨-, ⟨d5, d6, d7, d8⟩, d9⟩ := hs s hs9
      obtain ⟨f1, f2, f3, f4⟩ := b4 s (by omega)
      exact ⟨f2.trans d6, f3.trans d7, f4.trans d8⟩
    · obtain ⟨d1, d2, d3, d4, d5, d6⟩ := hp p hpp
      exact ⟨(b5 p (by omega)).1.trans d3, (b5 p (by omega)).2.trans d4, d5, d6⟩
    · exact xT_of h2 (by rw [c1 28 (by omega), a2 28 (by omega)]) (by rw [c1 29 (by omega), a2 29 (by omega)]) (b3 8 (by omega) (by omega)) (b2 9 (by omega))
    · exact xW_of h3 (by rw [c1 0 (by omega), a2 0 (by omega)]) (by rw [c1 31 (by omega), a2 31 (by omega)]) (b3 12 (by omega) (by omega)) (b2 13 (by omega))
    · exact xF_of h4 (by rw [c1 32 (by omega), a2 32 (by omega)]) (b2 14 (by omega))
    · rw [c1 0 (by omega), a2 0 (by omega)]; exact e1
    · rw [b3 15 (by omega) (by omega)]; exact e2
end
section
/-! quarters, open ones, corners, sides, points: both alike -/
def yL (A B C : Nat → Int) (n : Nat) (st t : XS) : Prop := lU st t ∧ (∀ q, q < 128 → t.1 18 q = zI ((gy_c A B C n q : Nat) : Int) ∧ t.1 19 q = zI (if gy_E A B n n q = true then 1 else 0)) ∧ t.1 0 20 = zI (((gp_ls A B C n n).length : Nat) : Int) ∧ t.1 0 21 = zI ((ls_sm (fun x => if 3 ≤ gp_th A B C n x then 1 else 0) (gp_ls A B C n n) : Nat) : Int) ∧ t.1 0 22 = zI ((fb_mx (fun k => gp_th A B C n ((gp_ls A B C n n).getD k (0, 0))) (gp_ls A B C n n).length : Nat) : Int)
theorem e_layL {st : XS} {n : Nat} {A B C : Nat → Int} (hm : mL st n A B C) : ∃ t, F_Mod_lay (zI (n : Int)) st = some t ∧ yL A B C n st t := by
  obtain ⟨t, h1, h2, h3, h4, h5, h6⟩ := e_lay hm
  refine ⟨t, h1, h2, h3, ?_, ?_, ?_⟩
  · rw [h4, fS_1, ls_sm_1]
  · rw [h5, fS_s]
  · rw [h6, gM_ls]
theorem gy_c_le (A B C : Nat → Int) {n : Nat} (h7 : n ≤ 7) (q : Nat) : gy_c A B C n q ≤ 10001 := by
  have h1 := gy_v_le (gy_E A B n n q) (fS (yf_k A B C n q) n 0)
  have h2 := fS_yk A B C h7 (Nat.le_refl n) (Nat.zero_le n) q
  unfold gy_c; omega
theorem gy_c_big {A B C : Nat → Int} {n q : Nat} (h6 : n ≤ 6) (hok : gz_ok A B n) (hq : 64 ≤ q) : gy_c A B C n q = 0 := by
  rcases Nat.eq_zero_or_pos (gy_c A B C n q) with h | h
  · exact h
  · have := ((gy_c_pos (by omega) hok).mp h).1
    have := p2_64 h6
    omega
theorem gy_c_no {A B C : Nat → Int} {n q : Nat} (h6 : n ≤ 6) (hok : gz_ok A B n) (hq : ¬ gq_Q A B C n n q = true) : gy_c A B C n q = 0 := by
  rcases Nat.eq_zero_or_pos (gy_c A B C n q) with h | h
  · exact h
  · exact absurd ((gy_c_Q h6 hok).mp h) hq
theorem gy_c_cor {A B C : Nat → Int} {n q : Nat} (h6 : n ≤ 6) (hok : gz_ok A B n) (hq : gq_Q A B C n n q = true) : gy_c A B C n q = ls_sm (fun x => if gp_g A B C n q x = true then 1 else 0) (gp_ls A B C n n) + 1 := by
  obtain ⟨h1, h2⟩ := (gq_Q_iff h6 hok).mp hq
  have hp := (gy_c_Q (C := C) h6 hok).mpr hq
  have e : fS (yf_k A B C n q) n 0 = ls_sm (fun x => if gp_g A B C n q x = true then 1 else 0) (gp_ls A B C n n) := by
    rw [fS_k]
    apply ls_sm_cong
    intro x hx
    obtain ⟨g1, g2, g3, g4⟩ := (gp_ls_mem (Nat.le_refl n)).mp hx
    have : gy_h A B C n x.1 x.2 q = true ↔ gp_g A B C n q x = true := by
      rw [gy_h_iff, gp_g_iff (by omega) h1]
      exact ⟨fun z => z.2.1, fun z => ⟨h1, z, gz_about hok h2 g2 g3⟩⟩
    by_cases c : gp_g A B C n q x = true
    · rw [if_pos c, if_pos (this.mpr c)]
    · rw [if_neg c, if_neg (fun z => c (this.mp z))]
  unfold gy_c at hp ⊢
  rw [e] at hp ⊢
  unfold gy_v at hp ⊢
  split
  · rename_i h0
    rw [if_pos h0] at hp
    rw [h0]
    split
    · rfl
    · rename_i h9; rw [if_neg h9] at hp; omega
  · rfl
theorem ct128 {P Q : Nat → Bool} (h1 : ∀ q, 64 ≤ q → P q = false) (h2 : ∀ q, q < 64 → P q = Q q) : fb_ct P 128 = fb_ct Q 64 := by
  rw [show (128 : Nat) = 64 + 64 from rfl, fb_ct_split, fb_ct_cong h2]
  have : fb_ct (fun k => P (64 + k)) 64 = 0 := fb_ct_zero.mpr (fun k _ => h1 (64 + k) (by omega))
  omega
theorem e_mhow {st t : XS} {n : Nat} {A B C : Nat → Int} (h6 : n ≤ 7) (h : yL A B C n st t) : F_Mod_howMany t = some (zI ((fb_ct (fun q => decide (0 < gy_c A B C n q)) 128 : Nat) : Int)) := by
  unfold F_Mod_howMany
  rw [lp_cnt (fun q => decide (0 < gy_c A B C n q)) 128 (by omega) (fun k c hk => ?_) (fun c => ?_)]
  · unfold F_Mod_howMany_b4
    dsimp only
    have hle := gy_c_le A B C h6 k
    rw [zI_128, if_neg (zI_ge1 (by omega) hk), xo_rd_z hk (by decide), Option.bind_some, (h.2.1 k hk).1, xo_nm_b, xo_nm_b, xo_nm_b, zI_suc, zI_suc]
    by_cases hc : 0 < gy_c A B C n k
    · rw [if_neg (by rw [zI_0, zI_le (zB_n (by omega)) (by decide)]; omega), if_pos (decide_eq_true hc)]
    · rw [if_pos (by rw [zI_0, zI_le (zB_n (by omega)) (by decide)]; omega), if_neg (by simpa using hc)]; rfl
  · unfold F_Mod_howMany_b4
    dsimp only
    rw [zI_128, if_pos (zI_rfl _)]
theorem how_Q {A B C : Nat → Int} {n : Nat} (h6 : n ≤ 6) (hok : gz_ok A B n) : fb_ct (fun q => decide (0 < gy_c A B C n q)) 128 = fb_ct (gq_Q A B C n n) 64 := by
  refine ct128 (fun q hq => ?_) (fun q hq => ?_)
  · rw [gy_c_big h6 hok hq]; rfl
  · have := gy_c_Q (C := C) (q := q) h6 hok
    by_cases hQ : gq_Q A B C n n q = true
    · rw [hQ, decide_eq_true (this.mpr hQ)]
    · rw [decide_eq_false (fun z => hQ (this.mp z))]
      simpa using hQ
theorem s_quarters (sc sm : XS) (h : xz_RR sc sm) : ∃ (r : Int32) (sc2 sm2 : XS), F_All_quarters sc = some r ∧ F_Mod_quarters sm = some (r, sm2) ∧ xz_RR sc2 sm2 ∧ sc = sc2 := by
  have hq := h
  obtain ⟨⟨n, A, B, C, Kd, P, X, Y, hc, hok, hpl, hkd, hp, hn, hm, hpm⟩, h2, h3, h4, h5⟩ := h
  have h6 := hc.2.1
  obtain ⟨t, g1, g2⟩ := e_layL hm
  unfold F_All_quarters F_Mod_quarters
  rw [hpl.2.1, e_count, hn, g1, Option.bind_some, Option.bind_some, e_mhow (by omega) g2, Option.bind_some, how_Q h6 hok]
  exact ⟨_, _, _, rfl, rfl, RR_m hq g2.1, rfl⟩
theorem s_open (sc sm : XS) (h : xz_RR sc sm) : ∃ (r : Int32) (sc2 sm2 : XS), F_All_open sc = some r ∧ F_Mod_open sm = some (r, sm2) ∧ xz_RR sc2 sm2 ∧ sc = sc2 := by
  have hq := h
  obtain ⟨⟨n, A, B, C, Kd, P, X, Y, hc, hok, hpl, hkd, hp, hn, hm, hpm⟩, h2, h3, h4, h5⟩ := h
  have h6 := hc.2.1
  obtain ⟨t, g1, g2⟩ := e_layL hm
  have e : fb_ct (gy_E A B n n) 128 = fb_ct (gq_O A B n n) 64 := by
    refine ct128 (fun q hq => ?_) (fun q hq => ?_)
    · rw [Bool.eq_false_iff, Ne, gy_E_iff (by omega)]
      have := p2_64 h6
      omega
    · have h1 := gy_E_iff (A := A) (B := B) (n := n) (q := q) (by omega)
      have h2 := gq_O_iff (A := A) (B := B) (n := n) (m := q) h6
      cases ha : gy_E A B n n q <;> cases hb : gq_O A B n n q <;> simp_all
  unfold F_All_open F_Mod_open
  rw [hpl.2.2, e_count, hn, g1, Option.bind_some, Option.bind_some]
  rw [lp_cnt (gy_E A B n n) 128 (by omega) (fun k c hk => ?_) (fun c => ?_), e]
  · exact ⟨_, _, _, rfl, rfl, RR_m hq g2.1, rfl⟩
  · unfold F_Mod_open_b12
    dsimp only
    rw [zI_128, if_neg (zI_ge1 (by omega) hk), xo_rd_z hk (by decide), Option.bind_some, (g2.2.1 k hk).2, xo_nm_b, xo_nm_b, xo_nm_b, zI_suc, zI_suc]
    by_cases hc : gy_E A B n n k = true
    · rw [if_pos hc, if_neg (by decide), if_pos hc]
    · rw [if_neg hc, if_pos (show zI 0 = 0 from rfl), if_neg hc]; rfl
  · unfold F_Mod_open_b12
    dsimp only
    rw [zI_128, if_pos (zI_rfl _)]
theorem s_with (sc sm : XS) (x1 : Int32) (h : xz_RR sc sm) : ∃ (r : Int32) (sc2 sm2 : XS), F_All_with x1 sc = some (r, sc2) ∧ F_Mod_with x1 sm = some (r, sm2) ∧ xz_RR sc2 sm2 := by
  obtain ⟨x, hx, rfl⟩ := zI_of x1
  have hq := h
  obtain ⟨⟨n, A, B, C, Kd, P, X, Y, hc, hok, hpl, hkd, hp, hn, hm, hpm⟩, h2, h3, h4, h5⟩ := h
  have h6 := hc.2.1
  have k1 : (0 : Int32) ≤ zI x ↔ 0 ≤ x := zi_le (by decide) hx _ _ rfl rfl
  have k2 : zI x ≤ (12 : Int32) ↔ x ≤ 12 := zi_le hx (by decide) _ _ rfl rfl
  by_cases x0 : 0 ≤ x
  · by_cases x12 : x ≤ 12
    · obtain ⟨w, rfl⟩ : ∃ w : Nat, x = w := ⟨x.toNat, by omega⟩
      obtain ⟨t, g1, g2⟩ := e_layL hm
      have hct : fb_ct (fun q => decide (gy_c A B C n q = w + 1)) 128 = fb_ct (fun q => gq_Q A B C n n q && decide (ls_sm (fun x => if gp_g A B C n q x then 1 else 0) (gp_ls A B C n n) = w)) 64 := by
        refine ct128 (fun q hq => ?_) (fun q hq => ?_)
        · rw [gy_c_big h6 hok hq]; simp
        · by_cases hQ : gq_Q A B C n n q = true
          · rw [hQ, Bool.true_and, gy_c_cor h6 hok hQ]
            simp
          · rw [gy_c_no h6 hok hQ]
            simp [hQ]
      rw [e_with h6 hpl.1 hpl.2.1 (by omega)]
      unfold F_Mod_with
      rw [if_pos (k1.mpr x0), if_pos (k2.mpr x12), hn, g1, Option.bind_some]
      rw [lp_cnt (fun q => decide (gy_c A B C n q = w + 1)) 128 (by omega) (fun k c hk => ?_) (fun c => ?_)]
      · rw [hct]
        exact ⟨_, _, _, rfl, rfl, RR_m hq g2.1⟩
      · unfold F_Mod_with_b36
        dsimp only
        have hle := gy_c_le A B C (show n ≤ 7 by omega) k
        rw [zI_128, if_neg (zI_ge1 (by omega) hk), xo_rd_z hk (by decide), Option.bind_some, (g2.2.1 k hk).1, xo_nm_b, xo_nm_b, xo_nm_b, zI_suc, zI_suc, zI_suc]
        by_cases hc : gy_c A B C n k = w + 1
        · rw [if_pos (by rw [hc]), if_pos (decide_eq_true hc)]
        · rw [if_neg (by rw [zI_eq (zB_n (by omega)) (zB_n (by omega)), Int.ofNat_inj]; exact hc), if_neg (by simpa using hc)]; rfl
      · unfold F_Mod_with_b36
        dsimp only
        rw [zI_128, if_pos (zI_rfl _)]
    · unfold F_All_with F_Mod_with
      rw [if_pos (k1.mpr x0), if_neg (fun z => x12 (k2.mp z)), if_pos (k1.mpr x0), if_neg (fun z => x12 (k2.mp z))]
      exact st_no6 hq
  · unfold F_All_with F_Mod_with
    rw [if_neg (fun z => x0 (k1.mp z)), if_neg (fun z => x0 (k1.mp z))]
    exact st_no4 hq
theorem e_misQ {sm : XS} {n : Nat} {A B C : Nat → Int} (h6 : n ≤ 6) (hok : gz_ok A B n) (hm : mL sm n A B C) (hn : sm.1 0 0 = zI (n : Int)) {x : Int} (hx : zB x) : ∃ t, F_Mod_isQuarter (zI x) sm = some (zI (if 0 ≤ x ∧ x < 64 ∧ gq_Q A B C n n x.toNat = true then 1 else 0), t) ∧ yL A B C n sm t := by
  obtain ⟨t, g1, g2⟩ := e_layL hm
  refine ⟨t, ?_, g2⟩
  unfold F_Mod_isQuarter
  have hw : F_Mod_within (zI x) (0 : Int32) (127 : Int32) = some (zI (if 0 ≤ x ∧ x ≤ 127 then 1 else 0)) := e_mwithin (a := 0) (b := 127) hx (by decide) (by decide)
  rw [hn, g1, Option.bind_some, hw, Option.bind_some]
  by_cases c : 0 ≤ x ∧ x ≤ 127
  · obtain ⟨q, rfl⟩ : ∃ w : Nat, x = w := ⟨x.toNat, by omega⟩
    have hle := gy_c_le A B C (show n ≤ 7 by omega) q
    have e : (↑q : Int).toNat = q := rfl
    rw [if_pos c, if_neg (by decide), xo_rd_z (show q < 128 by omega) (by decide), Option.bind_some, (g2.2.1 q (by omega)).1, e]
    by_cases hQ : gq_Q A B C n n q = true
    · have h1 := (gy_c_Q (C := C) h6 hok).mpr hQ
      have h2 := ((gq_Q_iff h6 hok).mp hQ).1
      have h3 := p2_64 h6
      rw [if_neg (by rw [zI_0, zI_le (zB_n (by omega)) (by decide)]; omega), if_pos ⟨by omega, by omega, hQ⟩]; rfl
    · rw [gy_c_no h6 hok hQ, if_pos (show zI ((0 : Nat) : Int) ≤ 0 from zI_rfl 0), if_neg (fun z => hQ z.2.2)]; rfl
  · rw [if_neg c, if_pos (show zI 0 = 0 from rfl), if_neg (fun z => c ⟨z.1, by omega⟩)]; rfl
end
section
/-! corners, sides, openness of a quarter; how many lie at all; points -/
theorem s_corners (sc sm : XS) (x1 : Int32) (h : xz_RR sc sm) : ∃ (r : Int32) (sc2 sm2 : XS), F_All_corners x1 sc = some (r, sc2) ∧ F_Mod_corners x1 sm = some (r, sm2) ∧ xz_RR sc2 sm2 := by
  obtain ⟨x, hx, rfl⟩ := zI_of x1
  have hq := h
  obtain ⟨⟨n, A, B, C, Kd, P, X, Y, hc, hok, hpl, hkd, hp, hn, hm, hpm⟩, h2, h3, h4, h5⟩ := h
  have h6 := hc.2.1
  obtain ⟨t, g1, g2⟩ := e_misQ h6 hok hm hn hx
  unfold F_All_corners F_Mod_corners
  rw [e_hasQ hpl.2.1 hx, Option.bind_some, g1]
  unfold xo_bn
  rw [Option.bind_some]
  dsimp only
  by_cases c : 0 ≤ x ∧ x < 64 ∧ gq_Q A B C n n x.toNat = true
  · obtain ⟨q, rfl⟩ : ∃ w : Nat, x = w := ⟨x.toNat, by omega⟩
    have hQ : gq_Q A B C n n q = true := c.2.2
    rw [if_pos c, if_neg (by decide), if_neg (by decide), e_corners h6 hpl.1 (by omega), xo_rd_z (show q < 128 by omega) (by decide), (g2.2.1 q (by omega)).1, gy_c_cor h6 hok hQ, Option.bind_some, Option.bind_some]
    have e1 : ∀ v : Nat, zI ((v + 1 : Nat) : Int) - (1 : Int32) = zI (v : Int) := fun v => by
      rw [zI_1, zI_sub, show ((v + 1 : Nat) : Int) - 1 = (v : Int) by omega]
    rw [e1]
    exact ⟨_, _, _, rfl, rfl, RR_m hq g2.1⟩
  · rw [if_neg c, if_pos (show zI 0 = 0 from rfl), if_pos (show zI 0 = 0 from rfl)]
    exact st_no1 (RR_m hq g2.1)
theorem e_msidesOf {st t : XS} {n : Nat} {A B C : Nat → Int} (h6 : n ≤ 6) (hok : gz_ok A B n) (h : yL A B C n st t) (hn : st.1 0 0 = zI (n : Int)) {q : Nat} (hq : q < 64) : F_Mod_sidesOf (zI (q : Int)) t = some (zI ((fb_ct (fun s => gq_Q A B C n n (q ^^^ 2 ^ s)) n : Nat) : Int)) := by
  have hnt : t.1 0 0 = zI (n : Int) := (h.1.2.2 0 (by omega)).trans hn
  unfold F_Mod_sidesOf
  rw [lp_cnt (fun s => gq_Q A B C n n (q ^^^ 2 ^ s)) n (by omega) (fun k c hk => ?_) (fun c => ?_)]
  · unfold F_Mod_sidesOf_b4
    dsimp only
    have h2k : 2 ^ k < 2 ^ 6 := Nat.pow_lt_pow_right (by decide) (by omega)
    have hx : q ^^^ 2 ^ k < 2 ^ 6 := Nat.xor_lt_two_pow (by omega) h2k
    have hle := gy_c_le A B C (show n ≤ 7 by omega) (q ^^^ 2 ^ k)
    rw [hnt, if_neg (zI_ge1 (by omega) hk), zI_bit k (by omega), zI_xor, xo_rd_z (show q ^^^ 2 ^ k < 128 by omega) (by decide), Option.bind_some, (h.2.1 _ (by omega)).1, xo_nm_b, xo_nm_b, xo_nm_b, zI_suc, zI_suc]
    have hcq := gy_c_Q (C := C) (q := q ^^^ 2 ^ k) h6 hok
    by_cases hg : gq_Q A B C n n (q ^^^ 2 ^ k) = true
    · have := hcq.mpr hg
      rw [if_neg (by rw [zI_0, zI_le (zB_n (by omega)) (by decide)]; omega), if_pos hg]
    · rw [gy_c_no h6 hok hg, if_pos (show zI ((0 : Nat) : Int) ≤ 0 from zI_rfl 0), if_neg hg]; rfl
  · unfold F_Mod_sidesOf_b4
    dsimp only
    rw [hnt, if_pos (zI_rfl _)]
theorem s_sides (sc sm : XS) (x1 : Int32) (h : xz_RR sc sm) : ∃ (r : Int32) (sc2 sm2 : XS), F_All_sides x1 sc = some (r, sc2) ∧ F_Mod_sides x1 sm = some (r, sm2) ∧ xz_RR sc2 sm2 := by
  obtain ⟨x, hx, rfl⟩ := zI_of x1
  have hq := h
  obtain ⟨⟨n, A, B, C, Kd, P, X, Y, hc, hok, hpl, hkd, hp, hn, hm, hpm⟩, h2, h3, h4, h5⟩ := h
  have h6 := hc.2.1
  obtain ⟨t, g1, g2⟩ := e_misQ h6 hok hm hn hx
  unfold F_All_sides F_Mod_sides
  rw [e_hasQ hpl.2.1 hx, Option.bind_some, g1]
  unfold xo_bn
  rw [Option.bind_some]
  dsimp only
  by_cases c : 0 ≤ x ∧ x < 64 ∧ gq_Q A B C n n x.toNat = true
  · obtain ⟨q, rfl⟩ : ∃ w : Nat, x = w := ⟨x.toNat, by omega⟩
    rw [if_pos c, if_neg (by decide), if_neg (by decide), e_sidesOf hc hpl.2.1 (by omega), e_msidesOf h6 hok g2 hn (by omega)]
    exact ⟨_, _, _, rfl, rfl, RR_m hq g2.1⟩
  · rw [if_neg c, if_pos (show zI 0 = 0 from rfl), if_pos (show zI 0 = 0 from rfl)]
    exact st_no1 (RR_m hq g2.1)
theorem gyE_O {A B : Nat → Int} {n q : Nat} (h6 : n ≤ 6) : gy_E A B n n q = gq_O A B n n q := by
  have h1 := gy_E_iff (A := A) (B := B) (n := n) (q := q) (by omega)
  have h2 := gq_O_iff (A := A) (B := B) (n := n) (m := q) h6
  cases ha : gy_E A B n n q <;> cases hb : gq_O A B n n q <;> simp_all
theorem s_isOpen (sc sm : XS) (x1 : Int32) (h : xz_RR sc sm) : ∃ (r : Int32) (sc2 sm2 : XS), F_All_isOpen x1 sc = some (r, sc2) ∧ F_Mod_isOpen x1 sm = some (r, sm2) ∧ xz_RR sc2 sm2 := by
  obtain ⟨x, hx, rfl⟩ := zI_of x1
  have hq := h
  obtain ⟨⟨n, A, B, C, Kd, P, X, Y, hc, hok, hpl, hkd, hp, hn, hm, hpm⟩, h2, h3, h4, h5⟩ := h
  have h6 := hc.2.1
  obtain ⟨t, g1, g2⟩ := e_misQ h6 hok hm hn hx
  unfold F_All_isOpen F_Mod_isOpen
  rw [e_hasQ hpl.2.1 hx, Option.bind_some, g1]
  unfold xo_bn
  rw [Option.bind_some]
  dsimp only
  by_cases c : 0 ≤ x ∧ x < 64 ∧ gq_Q A B C n n x.toNat = true
  · obtain ⟨q, rfl⟩ : ∃ w : Nat, x = w := ⟨x.toNat, by omega⟩
    have e : (↑q : Int).toNat = q := rfl
    rw [if_pos c, if_neg (by decide), if_neg (by decide), hpl.2.2, e_has _ hx, xo_rd_z (show q < 128 by omega) (by decide), (g2.2.1 q (by omega)).2, Option.bind_some, Option.bind_some, gyE_O h6, e]
    by_cases hO : gq_O A B n n q = true
    · rw [if_pos (show (0 : Int) ≤ (q : Int) ∧ (q : Int) < 64 ∧ gq_O A B n n q = true from ⟨c.1, c.2.1, hO⟩), if_pos hO, if_neg (by decide), if_neg (by decide)]
      exact ⟨_, _, _, rfl, rfl, RR_m hq g2.1⟩
    · rw [if_neg (show ¬ ((0 : Int) ≤ (q : Int) ∧ (q : Int) < 64 ∧ gq_O A B n n q = true) from fun z => hO z.2.2), if_neg hO, if_pos (show zI 0 = 0 from rfl), if_pos (show zI 0 = 0 from rfl)]
      exact ⟨_, _, _, rfl, rfl, RR_m hq g2.1⟩
  · rw [if_neg c, if_pos (show zI 0 = 0 from rfl), if_pos (show zI 0 = 0 from rfl)]
    exact st_no1 (RR_m hq g2.1)
theorem s_whole (sc sm : XS) (h : xz_RR sc sm) : ∃ (r : Int32) (sc2 sm2 : XS), F_All_whole sc = some r ∧ F_Mod_whole sm = some (r, sm2) ∧ xz_RR sc2 sm2 ∧ sc = sc2 := by
  have hq := h
  obtain ⟨⟨n, A, B, C, Kd, P, X, Y, hc, hok, hpl, hkd, hp, hn, hm, hpm⟩, h2, h3, h4, h5⟩ := h
  have h6 := hc.2.1
  obtain ⟨t, g1, g2⟩ := e_layL hm
  have hnt : t.1 0 0 = zI (n : Int) := (g2.1.2.2 0 (by omega)).trans hn
  rw [e_whole hc hpl.2.1]
  unfold F_Mod_whole
  rw [hn, g1, Option.bind_some]
  have hct : fb_ct (fun q => decide (0 < gy_c A B C n q) && decide (fb_ct (fun s => gq_Q A B C n n (q ^^^ 2 ^ s)) n = n)) 128 = fb_ct (fun q => gq_Q A B C n n q && decide (fb_ct (fun s => gq_Q A B C n n (q ^^^ 2 ^ s)) n = n)) 64 := by
    refine ct128 (fun q hq => ?_) (fun q hq => ?_)
    · rw [gy_c_big h6 hok hq]; simp
    · have := gy_c_Q (C := C) (q := q) h6 hok
      by_cases hQ : gq_Q A B C n n q = true
      · rw [hQ, decide_eq_true (this.mpr hQ)]
      · have hQ' : gq_Q A B C n n q = false := by simpa using hQ
        rw [decide_eq_false (fun z => hQ (this.mp z)), hQ', Bool.false_and]
  rw [← hct]
  rw [lp_cnt (fun q => decide (0 < gy_c A B C n q) && decide (fb_ct (fun s => gq_Q A B C n n (q ^^^ 2 ^ s)) n = n)) 128 (by omega) (fun k c hk => ?_) (fun c => ?_)]
  · exact ⟨_, _, _, rfl, rfl, RR_m hq g2.1, rfl⟩
  · unfold F_Mod_whole_b12
    dsimp only
    have hle := gy_c_le A B C (show n ≤ 7 by omega) k
    rw [zI_128, if_neg (zI_ge1 (by omega) hk), xo_rd_z hk (by decide), Option.bind_some, (g2.2.1 k hk).1]
    by_cases hp : 0 < gy_c A B C n k
    · have hk64 : k < 64 := by
        rcases Nat.lt_or_ge k 64 with q | q
        · exact q
        · rw [gy_c_big h6 hok q] at hp; omega
      have hcl := fb_ct_le (fun s => gq_Q A B C n n (k ^^^ 2 ^ s)) n
      rw [if_neg (by rw [zI_0, zI_le (zB_n (by omega)) (by decide)]; omega), e_msidesOf h6 hok g2 hn hk64, Option.bind_some, hnt, decide_eq_true hp, Bool.true_and, xo_nm_b, xo_nm_b, xo_nm_b, zI_suc, zI_suc]
      by_cases hc : fb_ct (fun s => gq_Q A B C n n (k ^^^ 2 ^ s)) n = n
      · rw [if_pos (by rw [hc]), if_pos (decide_eq_true hc)]
      · rw [if_neg (by rw [zI_eq (zB_n (by omega)) (zB_n (by omega)), Int.ofNat_inj]; exact hc), if_neg (by simpa using hc)]; rfl
    · rw [if_pos (by rw [zI_0, zI_le (zB_n (by omega)) (by decide)]; omega), xo_nm_b, zI_suc, decide_eq_false hp, Bool.false_and, if_neg (by decide)]; rfl
  · unfold F_Mod_whole_b12
    dsimp only
    rw [zI_128, if_pos (zI_rfl _)]
theorem s_points (sc sm : XS) (x1 : Int32) (h : xz_RR sc sm) : ∃ (r : Int32) (sc2 sm2 : XS), F_All_points x1 sc = some (r, sc2) ∧ F_Mod_points x1 sm = some (r, sm2) ∧ xz_RR sc2 sm2 := by
  obtain ⟨x, hx, rfl⟩ := zI_of x1
  have hq := h
  obtain ⟨⟨n, A, B, C, Kd, P, X, Y, hc, hok, hpl, hkd, hp, hn, hm, hpm⟩, h2, h3, h4, h5⟩ := h
  have h6 := hc.2.1
  have h15 := gp_ls_15 A B C h6
  obtain ⟨t, g1, g2, g3, g4, g5, g6⟩ := e_layL hm
  unfold F_All_points F_Mod_points
  have hw : F_Mod_within (zI x) (0 : Int32) (2 : Int32) = some (zI (if 0 ≤ x ∧ x ≤ 2 then 1 else 0)) := e_mwithin (a := 0) (b := 2) hx (by decide) (by decide)
  have k0 : zI x = (0 : Int32) ↔ x = 0 := zi_eq hx (by decide) _ _ rfl rfl
  have k1 : zI x = (1 : Int32) ↔ x = 1 := zi_eq hx (by decide) _ _ rfl rfl
  have k2 : zI x = (2 : Int32) ↔ x = 2 := zi_eq hx (by decide) _ _ rfl rfl
  rw [hw, Option.bind_some, e_squares h6 hpl.1 h15, e_mostMeet h6 hpl.1 h15, hpl.1.1]
  simp only [k0, k1, k2]
  by_cases c : 0 ≤ x ∧ x ≤ 2
  · rw [if_pos c, if_neg (show ¬ zI 1 = 0 by decide), hn, g1]
    simp only [Option.bind_some]
    rw [g4, g5, g6]
    rcases (show x = 0 ∨ x = 1 ∨ x = 2 by omega) with rfl | rfl | rfl
    · exact ⟨_, _, _, rfl, rfl, RR_m hq g2⟩
    · exact ⟨_, _, _, rfl, rfl, RR_m hq g2⟩
    · exact ⟨_, _, _, rfl, rfl, RR_m hq g2⟩
  · rw [if_neg c, if_pos (show zI 0 = 0 from rfl), if_neg (by omega), if_neg (by omega), if_neg (by omega)]
    exact st_no2 hq
theorem bitc1 {u v : Nat} (hu : u < 64) (hv : v < 64) : F_Int_bitCount (zI (u : Int) ^^^ zI (v : Int)) = some (zI ((fb_ct (u ^^^ v).testBit 8 : Nat) : Int)) := by
  have b3 : u ^^^ v < 2 ^ 6 := Nat.xor_lt_two_pow hu hv
  rw [zI_xor, e_icount _ (by omega)]
end
section
/-! together, seeds, the row judged -/
theorem s_together (sc sm : XS) (x1 : Int32) (h : xz_RR sc sm) : ∃ (r : Int32) (sc2 sm2 : XS), F_All_together x1 sc = some (r, sc2) ∧ F_Mod_together x1 sm = some (r, sm2) ∧ xz_RR sc2 sm2 := by
  obtain ⟨x, hx, rfl⟩ := zI_of x1
  have hq := h
  obtain ⟨⟨n, A, B, C, Kd, P, X, Y, h1, hok, hpl, hkd, hp, hn, hm, hpm⟩, h2, h3, h4, h5⟩ := h
  have h6 := h1.2.1
  have h8 := hp.2.1
  unfold F_All_together F_Mod_together
  rw [e_hasPlot hp hx, e_misPlot hpm.1 hpm.2.1 hx, Option.bind_some, Option.bind_some]
  by_cases c : 0 ≤ x ∧ x < (P : Int)
  · obtain ⟨p, rfl⟩ : ∃ p : Nat, x = p := ⟨x.toNat, by omega⟩
    rw [if_pos c, if_neg (by decide), if_neg (by decide), e_qPlot h1 hp (show p < P by omega), e_mwhere hm hn hpm (show p < P by omega), Option.bind_some, Option.bind_some]
    by_cases hz : gw_z A B C n (X p) (Y p) = true
    · have e9 := (gw_9 (A := A) (B := B) (C := C) h6 _ _).mpr hz
      rw [lp_go (fun i => ((0 : Int32), zI (i : Int))) P 0 (by rfl) (by omega) (fun k hk => ?_) ?_, lp_go (fun i => ((0 : Int32), zI (i : Int))) 0 0 (by rfl) (by omega) (fun k hk => ?_) ?_]
      · exact ⟨_, _, _, rfl, rfl, hq⟩
      · unfold F_Mod_together_b25
        dsimp only
        rw [hpm.1, e9, if_pos rfl]
        split <;> rfl
      · exact absurd hk (Nat.not_lt_zero k)
      · unfold F_All_together_b31
        dsimp only
        rw [hp.1, if_pos (zI_rfl _)]
      · unfold F_All_together_b31
        dsimp only
        rw [hp.1, if_neg (zI_ge1 (by omega) hk), e9, if_pos rfl, xo_nm_b, zI_suc]
    · have e9 : ¬ zI (gw A B C n (X p) (Y p)) = (-9 : Int32) := fun z => hz ((gw_9 h6 _ _).mp z)
      generalize hu : gw A B C n (X p) (Y p) = u at *
      have hub : zB u := by rw [← hu]; exact gw_B h6 _ _
      have hk1 : ∀ k, (zI (gw A B C n (X k) (Y k)) = zI u) ↔ decide (gw A B C n (X k) (Y k) = u) = true := fun k => by
        rw [zI_eq (gw_B h6 _ _) hub, decide_eq_true_eq]
      rw [lp_go (fun i => (zI ((bm (fun k => decide (gw A B C n (X k) (Y k) = u)) i : Nat) : Int), zI (i : Int))) P (zI ((bm (fun k => decide (gw A B C n (X k) (Y k) = u)) P : Nat) : Int)) (by rfl) (by omega) (fun k hk => ?_) ?_, lp_go (fun i => (zI ((bm (fun k => decide (gw A B C n (X k) (Y k) = u)) i : Nat) : Int), zI (i : Int))) P (zI ((bm (fun k => decide (gw A B C n (X k) (Y k) = u)) P : Nat) : Int)) (by rfl) (by omega) (fun k hk => ?_) ?_]
      · exact ⟨_, _, _, rfl, rfl, hq⟩
      · unfold F_Mod_together_b25
        dsimp only
        rw [hpm.1, if_pos (zI_rfl _)]
      · unfold F_Mod_together_b25
        dsimp only
        rw [hpm.1, if_neg (zI_ge1 (by omega) hk), if_neg e9, e_mwhere hm hn hpm hk, Option.bind_some]
        by_cases hb : decide (gw A B C n (X k) (Y k) = u) = true
        · rw [if_pos ((hk1 k).mpr hb), xo_nm_b, xo_nm_b, zI_suc, bm_suc_t (by omega) hb]
        · rw [if_neg (fun z => hb ((hk1 k).mp z)), xo_nm_b, zI_suc, bm_suc_f (by simpa using hb)]
      · unfold F_All_together_b31
        dsimp only
        rw [hp.1, if_pos (zI_rfl _)]
      · unfold F_All_together_b31
        dsimp only
        rw [hp.1, if_neg (zI_ge1 (by omega) hk), if_neg e9, e_qPlot h1 hp hk, Option.bind_some]
        by_cases hb : decide (gw A B C n (X k) (Y k) = u) = true
        · rw [if_pos ((hk1 k).mpr hb), xo_nm_b, xo_nm_b, zI_suc, bm_suc_t (by omega) hb]
        · rw [if_neg (fun z => hb ((hk1 k).mp z)), xo_nm_b, zI_suc, bm_suc_f (by simpa using hb)]
  · rw [if_neg c, if_pos (show zI 0 = 0 from rfl), if_pos (show zI 0 = 0 from rfl)]
    exact st_no1 hq
/-- a draw -/
theorem e_draw (v : Int32) : ∃ z : Int, ab 20 z ∧ ∃ a b : Int32, xo_dv (v &&& (2147483647 : Int32)) (256 : Int32) = some a ∧ xo_rm a (41 : Int32) = some b ∧ b - (20 : Int32) = zI z := by
  obtain ⟨m, hm, rfl⟩ := wb_of32 v
  have e1 : nI m &&& (2147483647 : Int32) = nI (m % 2 ^ 31) := by
    have : (2147483647 : Int32) = nI (2 ^ 31 - 1) := rfl
    rw [this, fa_and, Nat.and_two_pow_sub_one_eq_mod]
  have hlt : m % 2 ^ 31 < 2 ^ 31 := Nat.mod_lt _ (by decide)
  have e2 : (256 : Int32) = nI 256 := rfl
  have e3 : (41 : Int32) = nI 41 := rfl
  have hd : nI (m % 2 ^ 31) / (256 : Int32) = nI (m % 2 ^ 31 / 256) := by rw [e2]; exact pk_div hlt (by decide) (by decide)
  have hlt2 : m % 2 ^ 31 / 256 < 2 ^ 31 := Nat.lt_of_le_of_lt (Nat.div_le_self _ _) hlt
  have hr : nI (m % 2 ^ 31 / 256) - nI (m % 2 ^ 31 / 256) / (41 : Int32) * (41 : Int32) = nI (m % 2 ^ 31 / 256 % 41) := by rw [e3]; exact pk_rem hlt2 (by decide) (by decide)
  have h41 : m % 2 ^ 31 / 256 % 41 < 41 := Nat.mod_lt _ (by decide)
  refine ⟨(m % 2 ^ 31 / 256 % 41 : Nat) - 20, by unfold ab; omega, nI (m % 2 ^ 31 / 256), nI (m % 2 ^ 31 / 256 % 41), ?_, ?_, ?_⟩
  · unfold xo_dv
    rw [if_neg (by decide), e1, hd]
  · unfold xo_rm
    rw [if_neg (by decide), hr]
  · rw [show (20 : Int32) = zI 20 from rfl, ← zI_n, zI_sub]
theorem e_place {v a b : Int32} {z : Int} (d : xo_dv (v &&& (2147483647 : Int32)) (256 : Int32) = some a) (f : xo_rm a (41 : Int32) = some b) (g : b - (20 : Int32) = zI z) : F_All_placeDrawn v = some (zI z) := by
  unfold F_All_placeDrawn
  rw [d, Option.bind_some, f, Option.bind_some, g]
def seed_r (A B C : Nat → Int) (n : Nat) (z1 z2 : Int) (v2 : Int32) (S : Nat → Bool) (k : Nat) : Option ((Int32 × Int64 × Int32) ⊕ Int64) := if zI (gw A B C n z1 z2) = (-9 : Int32) then some (.inl (v2, lS S, zI ((k + 1 : Nat) : Int))) else some (.inl (v2, lS S ||| ((1 : Int64) <<< ((zI (gw A B C n z1 z2)).toInt64 &&& 63)), zI ((k + 1 : Nat) : Int)))
theorem seeds_A {sc : XS} {n : Nat} {A B C : Nat → Int} (h1 : cL sc n A B C) {w k : Nat} (hw : w ≤ 30) {v v1 v2 : Int32} {S : Nat → Bool} (hk : k < w) {z1 z2 : Int} (y1 : ab 20 z1) (y2 : ab 20 z2) (e1 : F_All_seedAfter v = some v1) (p1 : F_All_placeDrawn v1 = some (zI z1)) (e2 : F_All_seedAfter v1 = some v2) (p2 : F_All_placeDrawn v2 = some (zI z2)) : F_All_seeds_b33 (zI (w : Int)) sc v (lS S) (zI (k : Int)) = seed_r A B C n z1 z2 v2 S k := by
  unfold F_All_seeds_b33 seed_r
  rw [if_neg (zI_ge1 (by omega) hk), e1, Option.bind_some, p1, Option.bind_some, e2, Option.bind_some, p2, Option.bind_some, e_qAt h1 y1 y2, Option.bind_some, xo_nm_b, xo_nm_b, xo_nm_b, zI_suc]
theorem seeds_M {sm : XS} {n : Nat} {A B C : Nat → Int} (hm : mL sm n A B C) (hn : sm.1 0 0 = zI (n : Int)) {w k : Nat} (hw : w ≤ 30) {v v1 v2 a1 b1 a2 b2 : Int32} {S : Nat → Bool} (hk : k < w) {z1 z2 : Int} (y1 : ab 20 z1) (y2 : ab 20 z2) (e1 : v * (1664525 : Int32) + (1013904223 : Int32) = v1) (d1 : xo_dv (v1 &&& (2147483647 : Int32)) (256 : Int32) = some a1) (f1 : xo_rm a1 (41 : Int32) = some b1) (g1 : b1 - (20 : Int32) = zI z1) (e2 : v1 * (1664525 : Int32) + (1013904223 : Int32) = v2) (d2 : xo_dv (v2 &&& (2147483647 : Int32)) (256 : Int32) = some a2) (f2 : xo_rm a2 (41 : Int32) = some b2) (g2 : b2 - (20 : Int32) = zI z2) : F_Mod_seeds_b33 (zI (w : Int)) sm v (lS S) (zI (k : Int)) = seed_r A B C n z1 z2 v2 S k := by
  unfold F_Mod_seeds_b33 seed_r
  rw [if_neg (zI_ge1 (by omega) hk), e1, xo_nm_b, d1, Option.bind_some, f1, Option.bind_some, xo_nm_b, e2, xo_nm_b, d2, Option.bind_some, f2, Option.bind_some, xo_nm_b, g1, g2, e_mat hm hn y1 y2, Option.bind_some, xo_nm_b, xo_nm_b, xo_nm_b, zI_suc]
theorem seeds_step {sc sm : XS} {n : Nat} {A B C : Nat → Int} (h1 : cL sc n A B C) (hm : mL sm n A B C) (hn : sm.1 0 0 = zI (n : Int)) {w : Nat} (hw : w ≤ 30) (k : Nat) (v : Int32) (S : Nat → Bool) (hk : k < w) : ∃ (v2 : Int32) (S2 : Nat → Bool), F_All_seeds_b33 (zI (w : Int)) sc v (lS S) (zI (k : Int)) = some (.inl (v2, lS S2, zI ((k + 1 : Nat) : Int))) ∧ F_Mod_seeds_b33 (zI (w : Int)) sm v (lS S) (zI (k : Int)) = some (.inl (v2, lS S2, zI ((k + 1 : Nat) : Int))) := by
  have h6 := h1.2.1
  have e1 : F_All_seedAfter v = some (v * (1664525 : Int32) + (1013904223 : Int32)) := by unfold F_All_seedAfter; exact rfl
  obtain ⟨v1, q1⟩ : ∃ v1, v * (1664525 : Int32) + (1013904223 : Int32) = v1 := ⟨_, rfl⟩
  have e2 : F_All_seedAfter v1 = some (v1 * (1664525 : Int32) + (1013904223 : Int32)) := by unfold F_All_seedAfter; exact rfl
  obtain ⟨v2, q2⟩ : ∃ v2, v1 * (1664525 : Int32) + (1013904223 : Int32) = v2 := ⟨_, rfl⟩
  rw [q1] at e1
  rw [q2] at e2
  obtain ⟨z1, y1, a1, b1, d1, f1, g1⟩ := e_draw v1
  obtain ⟨z2, y2, a2, b2, d2, f2, g2⟩ := e_draw v2
  rw [seeds_A h1 hw hk y1 y2 e1 (e_place d1 f1 g1) e2 (e_place d2 f2 g2), seeds_M hm hn hw hk y1 y2 q1 d1 f1 g1 q2 d2 f2 g2]
  unfold seed_r
  by_cases hz : gw_z A B C n z1 z2 = true
  · have e9 := (gw_9 (A := A) (B := B) (C := C) h6 _ _).mpr hz
    rw [if_pos e9]
    exact ⟨_, S, rfl, rfl⟩
  · have e9 : ¬ zI (gw A B C n z1 z2) = (-9 : Int32) := fun z => hz ((gw_9 h6 _ _).mp z)
    rw [if_neg e9, gw_n hz, lS_one (gw_b_lt h6 _ _), lS_or]
    exact ⟨_, _, rfl, rfl⟩
theorem seeds_run {sc sm : XS} {n : Nat} {A B C : Nat → Int} (h1 : cL sc n A B C) (hm : mL sm n A B C) (hn : sm.1 0 0 = zI (n : Int)) {w : Nat} (hw : w ≤ 30) : ∀ (d k : Nat) (v : Int32) (S : Nat → Bool) (fuel : Nat), k + d = w → d < fuel → ∃ S2, xo_lp (fun q : (Int32 × Int64 × Int32) => F_All_seeds_b33 (zI (w : Int)) sc q.1 q.2.1 q.2.2) fuel (v, lS S, zI (k : Int)) = some (lS S2) ∧ xo_lp (fun q : (Int32 × Int64 × Int32) => F_Mod_seeds_b33 (zI (w : Int)) sm q.1 q.2.1 q.2.2) fuel (v, lS S, zI (k : Int)) = some (lS S2) := by
  intro d
  induction d with
  | zero =>
    intro k v S fuel hk hf
    obtain ⟨m, rfl⟩ : ∃ m, fuel = m + 1 := ⟨fuel - 1, by omega⟩
    obtain rfl : k = w := by omega
    refine ⟨S, ?_, ?_⟩
    · unfold xo_lp
      dsimp only
      unfold F_All_seeds_b33
      rw [if_pos (zI_rfl _)]; rfl
    · unfold xo_lp
      dsimp only
      unfold F_Mod_seeds_b33
      rw [if_pos (zI_rfl _)]; rfl
  | succ d ih =>
    intro k v S fuel hk hf
    obtain ⟨m, rfl⟩ : ∃ m, fuel = m + 1 := ⟨fuel - 1, by omega⟩
    obtain ⟨v2, S2, g1, g2⟩ := seeds_step h1 hm hn hw k v S (by omega)
    obtain ⟨S3, i1, i2⟩ := ih (k + 1) v2 S2 m (by omega) (by omega)
    refine ⟨S3, ?_, ?_⟩
    · rw [xo_lp]
      dsimp only
      rw [g1]; exact i1
    · rw [xo_lp]
      dsimp only
      rw [g2]; exact i2
theorem s_seeds (sc sm : XS) (x1 x2 : Int32) (h : xz_RR sc sm) : ∃ (r : Int32) (sc2 sm2 : XS), F_All_seeds x1 x2 sc = some (r, sc2) ∧ F_Mod_seeds x1 x2 sm = some (r, sm2) ∧ xz_RR sc2 sm2 := by
  obtain ⟨x, hx, rfl⟩ := zI_of x1
  have hq := h
  obtain ⟨⟨n, A, B, C, Kd, P, X, Y, h1, hok, hpl, hkd, hp, hn, hm, hpm⟩, h2, h3, h4, h5⟩ := h
  have h6 := h1.2.1
  have k1 : (1 : Int32) ≤ zI x ↔ 1 ≤ x := zi_le (by decide) hx _ _ rfl rfl
  have k2 : zI x ≤ (30 : Int32) ↔ x ≤ 30 := zi_le hx (by decide) _ _ rfl rfl
  unfold F_All_seeds F_Mod_seeds
  simp only [k1, k2]
  by_cases c1 : 1 ≤ x
  · rw [if_pos c1, if_pos c1]
    by_cases c2 : x ≤ 30
    · obtain ⟨w, rfl⟩ : ∃ w : Nat, x = w := ⟨x.toNat, by omega⟩
      rw [if_pos c2, if_pos c2]
      have e0 : ((0 : Int64), (0 : Int32)) = (lS (fun _ => false), zI ((0 : Nat) : Int)) := by rw [lS_0]; rfl
      obtain ⟨S2, r1, r2⟩ := seeds_run h1 hm hn (show w ≤ 30 by omega) w 0 x2 (fun _ => false) 1000000 (by omega) (by omega)
      rw [e0, r1, r2, Option.bind_some, Option.bind_some, e_count]
      exact ⟨_, _, _, rfl, rfl, hq⟩
    · rw [if_neg c2, if_neg c2]
      exact st_no6 hq
  · rw [if_neg c1, if_neg c1]
    exact st_no4 hq
def fi (P : Nat → Bool) : Nat → Int
  | 0 => -9
  | n + 1 => if fi P n = -9 then (if P n = true then (n : Int) else -9) else fi P n
theorem fi_suc (P : Nat → Bool) (n : Nat) : fi P (n + 1) = if fi P n = -9 then (if P n = true then (n : Int) else -9) else fi P n := rfl
theorem fi_hit {P : Nat → Bool} {i : Nat} (h : fi P i = -9) (hp : P i = true) : ∀ {l : Nat}, i < l → fi P l = (i : Int)
  | 0, hl => absurd hl (Nat.not_lt_zero i)
  | l + 1, hl => by
    rw [fi_suc]
    by_cases e : i = l
    · subst e
      rw [if_pos h, if_pos hp]
    · rw [fi_hit h hp (l := l) (by omega), if_neg (by omega)]
end
section
/-! the row judged -/
theorem zI_prd {k : Nat} (h : 0 < k) : zI (k : Int) - (1 : Int32) = zI ((k - 1 : Nat) : Int) := by
  rw [zI_1, zI_sub, show (k : Int) - 1 = ((k - 1 : Nat) : Int) by omega]
def jc (r : Int32 ⊕ (Int32 ⊕ Unit)) : Int32 := Sum.elim id (Sum.elim id (fun _ => -9)) r
def jb (A B C : Nat → Int) (n : Nat) (R : Nat → Nat) (k : Nat) : Bool := !(gq_Q A B C n n (R k)) || (decide (0 < k) && decide (fb_ct (R k ^^^ R (k - 1)).testBit 8 ≠ 1))
theorem e_judge {st : XS} {n l : Nat} {A B C : Nat → Int} {R : Nat → Nat} (hQ : st.2 0 = lS (gq_Q A B C n n)) (hl : l ≤ 12) (hR : ∀ i, i < l → R i < 64 ∧ st.1 31 i = zI (R i : Int)) : ∃ r, xo_lp (fun q : Int32 => F_All_judge_b12 (zI (l : Int)) st q) 1000000 (0 : Int32) = some r ∧ jc r = zI (fi (jb A B C n R) l) := by
  refine lp_ex (fun (k : Nat) (x : Int32) => x = zI (k : Int) ∧ fi (jb A B C n R) k = -9) _ l 1000000 _ (by omega) ⟨rfl, rfl⟩ ?_ ?_
  · rintro k x hk ⟨rfl, h2⟩
    obtain ⟨r1, r2⟩ := hR k hk
    unfold F_All_judge_b12
    rw [if_neg (zI_ge1 (by omega) hk), xo_rd_z (show k < 12 by omega) (by decide), Option.bind_some, r2, e_hasQn hQ r1, Option.bind_some]
    by_cases hq : gq_Q A B C n n (R k) = true
    · rw [if_pos hq, if_neg (by decide)]
      by_cases h0 : k = 0
      · subst h0
        rw [if_pos (show zI ((0 : Nat) : Int) ≤ (0 : Int32) from zI_rfl 0), xo_nm_b, zI_suc]
        refine Or.inl ⟨_, rfl, rfl, ?_⟩
        rw [fi_suc, if_pos h2, if_neg (by unfold jb; simp [hq])]
      · obtain ⟨r3, r4⟩ := hR (k - 1) (by omega)
        have e1 : zI (k : Int) - (1 : Int32) = zI ((k - 1 : Nat) : Int) := zI_prd (by omega)
        have hle := fb_ct_le (R k ^^^ R (k - 1)).testBit 8
        rw [if_neg (by rw [zI_0, zI_le (zB_n (by omega)) (by decide)]; omega), Option.bind_some, e1, xo_rd_z (show k - 1 < 12 by omega) (by decide), Option.bind_some, r4, bitc1 r1 r3, Option.bind_some, xo_nm_b, zI_suc]
        by_cases hc : fb_ct (R k ^^^ R (k - 1)).testBit 8 = 1
        · rw [if_pos (by rw [hc]; rfl)]
          refine Or.inl ⟨_, rfl, rfl, ?_⟩
          rw [fi_suc, if_pos h2, if_neg (by unfold jb; simp [hq, hc])]
        · rw [if_neg (by rw [zI_1, zI_eq (zB_n (by omega)) (by decide)]; omega)]
          refine Or.inr ⟨_, rfl, ?_⟩
          rw [fi_hit h2 (by unfold jb; simp [hc]; omega) hk]; rfl
    · rw [if_neg hq, if_pos (show zI 0 = 0 from rfl)]
      refine Or.inr ⟨_, rfl, ?_⟩
      rw [fi_hit h2 (by unfold jb; simp [hq]) hk]; rfl
  · rintro x ⟨rfl, h2⟩
    unfold F_All_judge_b12
    rw [if_pos (zI_rfl _)]
    exact ⟨_, rfl, by rw [h2]; rfl⟩
theorem e_mjudge {st : XS} {n l : Nat} {A B C : Nat → Int} {R : Nat → Nat} (h6 : n ≤ 6) (hok : gz_ok A B n) (hm : mL st n A B C) (hn : st.1 0 0 = zI (n : Int)) (hl : l ≤ 12) (hR : ∀ i, i < l → R i < 64 ∧ st.1 13 i = zI (R i : Int)) : ∃ r, xo_lp (fun q : (Int32 × XS) => F_Mod_judge_b12 (zI (l : Int)) q.1 q.2) 1000000 ((0 : Int32), st) = some r ∧ ∃ t, lU st t ∧ Sum.elim (xo_u2 fun o11 t12 => some (o11, t12)) (fun t13 => some ((-9 : Int32), t13)) r = some (zI (fi (jb A B C n R) l), t) := by
  refine lp_ex (fun (k : Nat) (x : Int32 × XS) => x.1 = zI (k : Int) ∧ lU st x.2 ∧ fi (jb A B C n R) k = -9) _ l 1000000 _ (by omega) ⟨rfl, lU_rfl st, rfl⟩ ?_ ?_
  · rintro k ⟨x, t⟩ hk ⟨e1, e2, h2⟩
    dsimp only at e1 e2 h2 ⊢
    subst e1
    obtain ⟨r1, r2⟩ := hR k hk
    have hnt : t.1 0 0 = zI (n : Int) := (e2.2.2 0 (by omega)).trans hn
    have e13 : t.1 13 = st.1 13 := e2.2.1 13 (by omega) (by omega) (by omega)
    obtain ⟨u, g1, g2⟩ := e_misQ h6 hok (mL_u hm e2) hnt (x := (R k : Int)) (zB_n (by omega))
    have hu := lU_trans e2 g2.1
    have u13 : u.1 13 = st.1 13 := hu.2.1 13 (by omega) (by omega) (by omega)
    have eR : (↑(R k) : Int).toNat = R k := rfl
    unfold F_Mod_judge_b12
    rw [if_neg (zI_ge1 (by omega) hk), xo_rd_z (show k < 12 by omega) (by decide), Option.bind_some, e13, r2, g1, eR]
    unfold xo_bn
    rw [Option.bind_some]
    dsimp only
    by_cases hq : gq_Q A B C n n (R k) = true
    · rw [if_pos (show (0 : Int) ≤ (R k : Int) ∧ (R k : Int) < 64 ∧ gq_Q A B C n n (R k) = true from ⟨by omega, by omega, hq⟩), if_neg (by decide)]
      by_cases h0 : k = 0
      · subst h0
        rw [if_pos (show zI ((0 : Nat) : Int) ≤ (0 : Int32) from zI_rfl 0), xo_nm_b, zI_suc]
        refine Or.inl ⟨_, rfl, rfl, hu, ?_⟩
        rw [fi_suc, if_pos h2, if_neg (by unfold jb; simp [hq])]
      · obtain ⟨r3, r4⟩ := hR (k - 1) (by omega)
        have e1 : zI (k : Int) - (1 : Int32) = zI ((k - 1 : Nat) : Int) := zI_prd (by omega)
        have hle := fb_ct_le (R k ^^^ R (k - 1)).testBit 8
        rw [if_neg (by rw [zI_0, zI_le (zB_n (by omega)) (by decide)]; omega), u13, xo_rd_z (show k < 12 by omega) (by decide), Option.bind_some, e1, xo_rd_z (show k - 1 < 12 by omega) (by decide), Option.bind_some, r2, r4, bitc1 r1 r3, Option.bind_some, xo_nm_b, zI_suc]
        by_cases hc : fb_ct (R k ^^^ R (k - 1)).testBit 8 = 1
        · rw [if_pos (by rw [hc]; rfl)]
          refine Or.inl ⟨_, rfl, rfl, hu, ?_⟩
          rw [fi_suc, if_pos h2, if_neg (by unfold jb; simp [hq, hc])]
        · rw [if_neg (by rw [zI_1, zI_eq (zB_n (by omega)) (by decide)]; omega)]
          refine Or.inr ⟨_, rfl, u, hu, ?_⟩
          rw [fi_hit h2 (by unfold jb; simp [hc]; omega) hk]; rfl
    · rw [if_neg (show ¬ ((0 : Int) ≤ (R k : Int) ∧ (R k : Int) < 64 ∧ gq_Q A B C n n (R k) = true) from fun z => hq z.2.2), if_pos (show zI 0 = 0 from rfl)]
      refine Or.inr ⟨_, rfl, u, hu, ?_⟩
      rw [fi_hit h2 (by unfold jb; simp [hq]) hk]; rfl
  · rintro ⟨x, t⟩ ⟨e1, e2, h2⟩
    dsimp only at e1 e2 h2 ⊢
    subst e1
    unfold F_Mod_judge_b12
    rw [if_pos (zI_rfl _)]
    exact ⟨_, rfl, t, e2, by rw [h2]; rfl⟩
theorem s_judge (sc sm : XS) (h : xz_RR sc sm) : ∃ (r : Int32) (sc2 sm2 : XS), F_All_judge sc = some (r, sc2) ∧ F_Mod_judge sm = some (r, sm2) ∧ xz_RR sc2 sm2 := by
  obtain ⟨⟨n, A, B, C, Kd, P, X, Y, h1⟩, h2, ⟨l, hl, lc, lm, hr⟩, h4, h5⟩ := h
  have hR := h1
  obtain ⟨hc, hok, hpl, hkd, hp, hn, hm, hpm⟩ := h1
  have h6 := hc.2.1
  unfold F_All_judge F_Mod_judge
  rw [lc, lm, xo_nm_b, xo_nm_b, xo_nm_b, xo_nm_b]
  have hcI : ∀ k, k ≠ 0 → (xs_I sc 0 7 (0 : Int32)).1 k = sc.1 k := fun k hk => by simp [xs_I, hk]
  have hmI : ∀ k, k ≠ 0 → (xs_I sm 0 12 (0 : Int32)).1 k = sm.1 k := fun k hk => by simp [xs_I, hk]
  have hc0 : ∀ j, j ≠ 7 → (xs_I sc 0 7 (0 : Int32)).1 0 j = sc.1 0 j := fun j hj => by simp [xs_I, upd, hj]
  have hm0 : ∀ j, j ≠ 12 → (xs_I sm 0 12 (0 : Int32)).1 0 j = sm.1 0 j := fun j hj => by simp [xs_I, upd, hj]
  have hc1 : (xs_I sc 0 7 (0 : Int32)).1 0 7 = 0 := by simp [xs_I, upd]
  have hm1 : (xs_I sm 0 12 (0 : Int32)).1 0 12 = 0 := by simp [xs_I, upd]
  have hll : (xs_I sc 0 7 (0 : Int32)).2 = sc.2 := rfl
  generalize xs_I sc 0 7 (0 : Int32) = u1 at *
  generalize xs_I sm 0 12 (0 : Int32) = u2 at *
  have hRR : xz_RR u1 u2 := ⟨⟨n, A, B, C, Kd, P, X, Y, xR_of hR (fun k _ _ => hcI k (by omega)) (fun k _ _ => hcI k (by omega)) hll (hm0 0 (by omega)) (hm0 5 (by omega)) (fun k hk => hmI k (by omega)) (fun s _ => by rw [hmI 2 (by omega), hmI 3 (by omega), hmI 4 (by omega)]; exact ⟨rfl, rfl, rfl⟩)⟩, xT_of h2 (by rw [hcI 28 (by omega)]) (hcI 29 (by omega)) (hm0 8 (by omega)) (hmI 9 (by omega)), ⟨0, by omega, hc1, hm1, fun i hi => absurd hi (Nat.not_lt_zero i)⟩, xF_of h4 (hcI 32 (by omega)) (hmI 14 (by omega)), xI_of h5 (hc0 3 (by omega)) (hm0 15 (by omega)) (fun k _ _ => hcI k (by omega)) (hmI 16 (by omega))⟩
  have hrr : ∀ i, i < l → (u1.1 31 i).toNatClampNeg < 64 ∧ u1.1 31 i = zI ((u1.1 31 i).toNatClampNeg : Int) ∧ u2.1 13 i = zI ((u1.1 31 i).toNatClampNeg : Int) := fun i hi => by
    obtain ⟨c, g1, g2, g3⟩ := hr i hi
    rw [hcI 31 (by omega), hmI 13 (by omega), g2, g3, zI_cl (by omega)]
    exact ⟨g1, rfl, rfl⟩
  obtain ⟨r1, q1, q2⟩ := e_judge (st := u1) (n := n) (l := l) (A := A) (B := B) (C := C) (R := fun i => (u1.1 31 i).toNatClampNeg) (by rw [hll]; exact hpl.2.1) hl (fun i hi => ⟨(hrr i hi).1, (hrr i hi).2.1⟩)
  obtain ⟨r2, q3, t, q4, q5⟩ := e_mjudge (st := u2) (n := n) (l := l) (A := A) (B := B) (C := C) (R := fun i => (u1.1 31 i).toNatClampNeg) h6 hok (mL_of hm (hmI 2 (by omega)) (hmI 3 (by omega)) (hmI 4 (by omega))) ((hm0 0 (by omega)).trans hn) hl (fun i hi => ⟨(hrr i hi).1, (hrr i hi).2.2⟩)
  rw [q1, q3, Option.bind_some, Option.bind_some, q5]
  refine ⟨_, u1, t, ?_, rfl, RR_m hRR q4⟩
  rw [← q2]
  rcases r1 with r1 | r1 | r1
  · rfl
  · rfl
  · rfl
end
section
/-! lamps -/
def gl_p (A B C : Nat → Int) (n s : Nat) (g : Bool) (x : Nat × Nat) : Nat := if gz_p A B C x.1 x.2 s = 0 ∧ (g = true → 3 ≤ gp_th A B C n x) then 1 else 0
def yf_p (A B C : Nat → Int) (n s : Nat) (g : Bool) (i j : Nat) : Nat := if gp_f A B C i j = true then gl_p A B C n s g (i, j) else 0
theorem fS_p (A B C : Nat → Int) (n s : Nat) (g : Bool) : fS (yf_p A B C n s g) n 0 = ls_sm (gl_p A B C n s g) (gp_ls A B C n n) := by
  rw [ls_sm_pr, ← fS_pr]; rfl
theorem e_mpt {st : XS} {n : Nat} {A B C : Nat → Int} (hm : mL st n A B C) (hn : st.1 0 0 = zI (n : Int)) {i j s c : Nat} (hij : i < j) (hj : j < n) (x1 x4 : Int32) (h4 : x4 = zI (j : Int)) (g : Bool) (hz : gz_p A B C i j s = 0) (hf : gp_f A B C i j = true) : F_Mod_pointsOf_m62 x1 (zI (if g then 1 else 0)) (zI (c : Int)) x4 (zI (i : Int)) st = some (.inl (zI ((c + yf_p A B C n s g i j : Nat) : Int), zI ((i + 1 : Nat) : Int))) := by
  subst h4
  have h7 := hm.1
  have htl := gp_th_le A B C n (i, j)
  unfold F_Mod_pointsOf_m62
  rw [lp_cnt (fun k => decide (gz_p A B C i j k = 0)) n (by omega) (fun k c hk => ?_) (fun c => ?_)]
  · have e : fb_ct (fun k => decide (gz_p A B C i j k = 0)) n = gp_th A B C n (i, j) := rfl
    have ey : yf_p A B C n s g i j = gl_p A B C n s g (i, j) := if_pos hf
    simp only [e, ey, xo_nm_b, zI_suc]
    unfold gl_p
    cases g with
    | false =>
      rw [if_pos (show zI (if false = true then 1 else 0) = 0 from rfl), if_pos ⟨hz, fun q => by cases q⟩]
    | true =>
      rw [if_neg (show ¬ zI (if true = true then 1 else 0) = 0 by decide)]
      have e2 : (2 : Int32) = zI 2 := rfl
      by_cases h3 : 3 ≤ gp_th A B C n (i, j)
      · rw [e2, if_neg (by rw [zI_le (zB_n (by omega)) (by decide)]; omega), if_pos ⟨hz, fun _ => h3⟩]
      · rw [e2, if_pos (by rw [zI_le (zB_n (by omega)) (by decide)]; omega), if_neg (fun q => h3 (q.2 rfl))]; rfl
  · unfold F_Mod_pointsOf_b68
    dsimp only
    rw [hn, if_neg (zI_ge1 (by omega) hk)]
    simp only [xo_nm_b, zI_suc]
    by_cases e1 : k = i
    · subst e1
      rw [if_pos rfl, gz_p_i, if_pos (by decide)]
    · rw [if_neg (by rw [zI_eq (zB_n (by omega)) (zB_n (by omega))]; omega)]
      by_cases e2 : k = j
      · subst e2
        rw [if_pos rfl, gz_p_j, if_pos (by decide)]
      · rw [if_neg (by rw [zI_eq (zB_n (by omega)) (zB_n (by omega))]; omega), e_msoc hm hk (by omega) hj, Option.bind_some]
        by_cases hzk : gz_p A B C i j k = 0
        · rw [if_pos (sg3_z.mpr hzk), if_pos (decide_eq_true hzk)]
        · rw [if_neg (fun z => hzk (sg3_z.mp z)), if_neg (by simpa using hzk)]; rfl
  · unfold F_Mod_pointsOf_b68
    dsimp only
    rw [hn, if_pos (zI_rfl _)]
theorem e_mpair {st : XS} {n : Nat} {A B C : Nat → Int} (hm : mL st n A B C) (hn : st.1 0 0 = zI (n : Int)) {i j s c : Nat} (hij : i < j) (hj : j < n) (hs : s < n) (g : Bool) : F_Mod_pointsOf_b17 (zI (s : Int)) (zI (if g then 1 else 0)) (zI (j : Int)) st (zI (c : Int)) (zI (i : Int)) = some (.inl (zI ((c + yf_p A B C n s g i j : Nat) : Int), zI ((i + 1 : Nat) : Int))) := by
  have h7 := hm.1
  unfold F_Mod_pointsOf_b17
  rw [if_neg (zI_ge1 (by omega) hij), e_misFirst hm hij hj, Option.bind_some]
  by_cases hf : gp_f A B C i j = true
  · rw [if_pos hf, if_neg (by decide)]
    by_cases e1 : i = s
    · subst e1
      rw [if_pos rfl]
      exact e_mpt hm hn hij hj _ _ rfl g (gz_p_i A B C i j) hf
    · rw [if_neg (by rw [zI_eq (zB_n (by omega)) (zB_n (by omega))]; omega)]
      by_cases e2 : j = s
      · subst e2
        rw [if_pos rfl]
        exact e_mpt hm hn hij hj _ _ rfl g (gz_p_j A B C i j) hf
      · rw [if_neg (by rw [zI_eq (zB_n (by omega)) (zB_n (by omega))]; omega), e_msoc hm hs (by omega) hj, Option.bind_some]
        by_cases hz : gz_p A B C i j s = 0
        · rw [if_pos (sg3_z.mpr hz)]
          exact e_mpt hm hn hij hj _ _ rfl g hz hf
        · rw [if_neg (fun z => hz (sg3_z.mp z)), xo_nm_b, zI_suc]
          have ey : yf_p A B C n s g i j = 0 := by
            unfold yf_p gl_p
            rw [if_pos hf, if_neg (fun z => hz z.1)]
          rw [ey]; rfl
  · rw [if_neg hf, if_pos (show zI 0 = 0 from rfl), xo_nm_b, zI_suc]
    have ey : yf_p A B C n s g i j = 0 := if_neg hf
    rw [ey]; rfl
theorem e_mpointsOf {st : XS} {n : Nat} {A B C : Nat → Int} (hm : mL st n A B C) (hn : st.1 0 0 = zI (n : Int)) {s : Nat} (hs : s < n) (g : Bool) : F_Mod_pointsOf (zI (s : Int)) (zI (if g then 1 else 0)) st = some (zI ((ls_sm (gl_p A B C n s g) (gp_ls A B C n n) : Nat) : Int)) := by
  have h7 := hm.1
  rw [← fS_p]
  unfold F_Mod_pointsOf
  refine (lp_go (fun j => (zI ((fS (yf_p A B C n s g) j 0 : Nat) : Int), zI (j : Int))) n (zI ((fS (yf_p A B C n s g) n 0 : Nat) : Int)) (by rfl) (by omega) (fun j hj => ?_) ?_).trans rfl
  · unfold F_Mod_pointsOf_b5
    dsimp only
    rw [hn, if_neg (zI_ge1 (by omega) hj)]
    rw [lp_go (fun i => (zI ((fS (yf_p A B C n s g) j i : Nat) : Int), zI (i : Int))) j (zI ((fS (yf_p A B C n s g) j j : Nat) : Int)) (by rfl) (by omega) (fun i hi => ?_) ?_]
    · rw [xo_nm_b, zI_suc, fS_j]
    · unfold F_Mod_pointsOf_b17
      dsimp only
      rw [if_pos (zI_rfl _)]
    · dsimp only
      rw [e_mpair hm hn hi hj hs g, fS_i]
  · unfold F_Mod_pointsOf_b5
    dsimp only
    rw [hn, if_pos (zI_rfl _)]
theorem ls_sm_mul (c : Nat) (w : Nat × Nat → Nat) : ∀ L : List (Nat × Nat), ls_sm (fun x => c * w x) L = c * ls_sm w L
  | [] => rfl
  | x :: l => by rw [ls_sm, ls_sm, ls_sm_mul c w l, Nat.mul_add]
theorem ls_sm_add (u w : Nat × Nat → Nat) : ∀ L : List (Nat × Nat), ls_sm (fun x => u x + w x) L = ls_sm u L + ls_sm w L
  | [] => rfl
  | x :: l => by rw [ls_sm, ls_sm, ls_sm, ls_sm_add u w l]; omega
theorem gl_p_f (A B C : Nat → Int) (n s : Nat) (x : Nat × Nat) : gl_p A B C n s false x = if gz_p A B C x.1 x.2 s = 0 then 1 else 0 := by
  unfold gl_p
  by_cases h : gz_p A B C x.1 x.2 s = 0
  · rw [if_pos ⟨h, fun q => by cases q⟩, if_pos h]
  · rw [if_neg (fun q => h q.1), if_neg h]
/-- one kind's lamp, but for the grand ones -/
def gl_1 (n k s : Nat) : Nat := if k = 0 then 1 else if k = 1 then 2 else if k = 2 then 0 else if k = 4 then 1 + s else if s + 1 = n then 7 else 0
theorem gl_x_1 {A B C : Nat → Int} {n k s : Nat} (hk : k < 6) (h3 : k ≠ 3) (L : List (Nat × Nat)) : ls_sm (gl_x A B C n k s) L = gl_1 n k s * ls_sm (gl_p A B C n s false) L := by
  rw [← ls_sm_mul]
  apply ls_sm_cong
  intro x _
  rw [gl_p_f]
  unfold gl_x gl_w gl_1
  by_cases hz : gz_p A B C x.1 x.2 s = 0
  · rw [if_pos hz, if_pos hz, Nat.mul_one]
    rcases (show k = 0 ∨ k = 1 ∨ k = 2 ∨ k = 4 ∨ k = 5 by omega) with rfl | rfl | rfl | rfl | rfl <;> rfl
  · rw [if_neg hz, if_neg hz, Nat.mul_zero]
theorem gl_x_3 {A B C : Nat → Int} {n s : Nat} (L : List (Nat × Nat)) : ls_sm (gl_x A B C n 3 s) L = 2 * ls_sm (gl_p A B C n s false) L + 5 * ls_sm (gl_p A B C n s true) L := by
  rw [← ls_sm_mul, ← ls_sm_mul, ← ls_sm_add]
  apply ls_sm_cong
  intro x _
  rw [gl_p_f]
  unfold gl_x gl_w gl_p
  by_cases hz : gz_p A B C x.1 x.2 s = 0 <;> by_cases h3 : 3 ≤ gp_th A B C n x <;> simp [hz, h3]
theorem zI_muln (a b : Nat) (x : Int32) (hx : x = zI (a : Int)) : x * zI (b : Int) = zI ((a * b : Nat) : Int) := by rw [hx, zI_mul]; rfl
theorem e_mlampsOf {st : XS} {n : Nat} {A B C : Nat → Int} (hm : mL st n A B C) (hn : st.1 0 0 = zI (n : Int)) {s k : Nat} (hs : s < n) (hk : st.1 1 s = zI (k : Int)) (hk6 : k < 6) : F_Mod_lampsOf (zI (s : Int)) st = some (zI ((ls_sm (gl_x A B C n k s) (gp_ls A B C n n) : Nat) : Int)) := by
  have h7 := hm.1
  have hf : F_Mod_pointsOf (zI (s : Int)) (0 : Int32) st = some (zI ((ls_sm (gl_p A B C n s false) (gp_ls A B C n n) : Nat) : Int)) := e_mpointsOf hm hn hs false
  have ht : F_Mod_pointsOf (zI (s : Int)) (1 : Int32) st = some (zI ((ls_sm (gl_p A B C n s true) (gp_ls A B C n n) : Nat) : Int)) := e_mpointsOf hm hn hs true
  unfold F_Mod_lampsOf
  rw [hf, ht, Option.bind_some, Option.bind_some, xo_rd_z (show s < 7 by omega) (by decide), Option.bind_some, hk, hn]
  by_cases h3 : k = 3
  · subst h3
    rw [gl_x_3]
    generalize ls_sm (gl_p A B C n s false) (gp_ls A B C n n) = u
    generalize ls_sm (gl_p A B C n s true) (gp_ls A B C n n) = v
    have m2 : (2 : Int32) * zI (u : Int) = zI ((2 * u : Nat) : Int) := zI_muln 2 u _ rfl
    have m5 : (5 : Int32) * zI (v : Int) = zI ((5 * v : Nat) : Int) := zI_muln 5 v _ rfl
    rw [if_neg (show ¬ zI ((3 : Nat) : Int) = (0 : Int32) by decide), if_neg (show ¬ zI ((3 : Nat) : Int) = (1 : Int32) by decide), if_neg (show ¬ zI ((3 : Nat) : Int) = (2 : Int32) by decide), if_pos (show zI ((3 : Nat) : Int) = (3 : Int32) from rfl), m2, m5, zI_addn]
  · rw [gl_x_1 hk6 h3]
    generalize ls_sm (gl_p A B C n s false) (gp_ls A B C n n) = u
    generalize ls_sm (gl_p A B C n s true) (gp_ls A B C n n) = v
    have e6 : (zI (s : Int) = zI (n : Int) - (1 : Int32)) ↔ s + 1 = n := by
      rw [zI_1, zI_sub, zI_eq (zB_n (by omega)) ⟨by omega, by omega⟩]; omega
    have e7 : (1 : Int32) + zI (s : Int) = zI ((1 + s : Nat) : Int) := zI_addl 1 s _ rfl
    have m2 : (2 : Int32) * zI (u : Int) = zI ((2 * u : Nat) : Int) := zI_muln 2 u _ rfl
    have m7 : (7 : Int32) * zI (u : Int) = zI ((7 * u : Nat) : Int) := zI_muln 7 u _ rfl
    rw [m2, e7, zI_muln (1 + s) u _ rfl, m7]
    unfold gl_1
    rcases (show k = 0 ∨ k = 1 ∨ k = 2 ∨ k = 4 ∨ k = 5 by omega) with rfl | rfl | rfl | rfl | rfl
    · rw [if_pos (show zI ((0 : Nat) : Int) = (0 : Int32) from rfl), if_pos rfl, Nat.one_mul]
    · rw [if_neg (show ¬ zI ((1 : Nat) : Int) = (0 : Int32) by decide), if_pos (show zI ((1 : Nat) : Int) = (1 : Int32) from rfl), if_neg (by decide), if_pos rfl]
    · rw [if_neg (show ¬ zI ((2 : Nat) : Int) = (0 : Int32) by decide), if_neg (show ¬ zI ((2 : Nat) : Int) = (1 : Int32) by decide), if_pos (show zI ((2 : Nat) : Int) = (2 : Int32) from rfl), if_neg (by decide), if_neg (by decide), if_pos rfl, Nat.zero_mul]; rfl
    · rw [if_neg (show ¬ zI ((4 : Nat) : Int) = (0 : Int32) by decide), if_neg (show ¬ zI ((4 : Nat) : Int) = (1 : Int32) by decide), if_neg (show ¬ zI ((4 : Nat) : Int) = (2 : Int32) by decide), if_neg (show ¬ zI ((4 : Nat) : Int) = (3 : Int32) by decide), if_pos (show zI ((4 : Nat) : Int) = (4 : Int32) from rfl), if_neg (by decide), if_neg (by decide), if_neg (by decide), if_pos rfl]
    · rw [if_neg (show ¬ zI ((5 : Nat) : Int) = (0 : Int32) by decide), if_neg (show ¬ zI ((5 : Nat) : Int) = (1 : Int32) by decide), if_neg (show ¬ zI ((5 : Nat) : Int) = (2 : Int32) by decide), if_neg (show ¬ zI ((5 : Nat) : Int) = (3 : Int32) by decide), if_neg (show ¬ zI ((5 : Nat) : Int) = (4 : Int32) by decide), if_neg (show ¬ (5 = 0) by decide), if_neg (show ¬ (5 = 1) by decide), if_neg (show ¬ (5 = 2) by decide), if_neg (show ¬ (5 = 4) by decide)]
      by_cases h : s + 1 = n
      · rw [if_pos (e6.mpr h), if_pos h]
      · rw [if_neg (fun z => h (e6.mp z)), if_neg h, Nat.zero_mul]; rfl
end
section
/-! streets, all lamps -/
theorem s_street (sc sm : XS) (x1 x2 : Int32) (h : xz_RR sc sm) : ∃ (r : Int32) (sc2 sm2 : XS), F_All_street x1 x2 sc = some (r, sc2) ∧ F_Mod_street x1 x2 sm = some (r, sm2) ∧ xz_RR sc2 sm2 := by
  obtain ⟨x, hx, rfl⟩ := zI_of x1
  obtain ⟨y, hy, rfl⟩ := zI_of x2
  have hq := h
  obtain ⟨⟨n, A, B, C, Kd, P, X, Y, hc, hok, hpl, hkd, hp, hn, hm, hpm⟩, h2, h3, h4, h5⟩ := h
  have h6 := hc.2.1
  unfold F_All_street F_Mod_street
  have k0 : zI y = (0 : Int32) ↔ y = 0 := zi_eq hy (by decide) _ _ rfl rfl
  have k1 : zI y = (1 : Int32) ↔ y = 1 := zi_eq hy (by decide) _ _ rfl rfl
  have k2 : zI y = (2 : Int32) ↔ y = 2 := zi_eq hy (by decide) _ _ rfl rfl
  have k3 : zI y = (3 : Int32) ↔ y = 3 := zi_eq hy (by decide) _ _ rfl rfl
  have k4 : zI y = (4 : Int32) ↔ y = 4 := zi_eq hy (by decide) _ _ rfl rfl
  rw [e_hasStreet hc hx, e_misStreet hn (by omega) hx, Option.bind_some, Option.bind_some]
  simp only [k0, k1, k2, k3, k4]
  by_cases c : 0 ≤ x ∧ x < (n : Int)
  · obtain ⟨s, rfl⟩ : ∃ p : Nat, x = p := ⟨x.toNat, by omega⟩
    have hs : s < n := by omega
    obtain ⟨c1, c2, c3⟩ := hc.2.2.1 s hs
    obtain ⟨m1, m2, m3⟩ := hm.2.1 s hs
    obtain ⟨d1, d2, d3⟩ := hkd s hs
    rw [if_pos c, if_neg (show ¬ zI 1 = 0 by decide), if_neg (show ¬ zI 1 = 0 by decide)]
    by_cases c0 : y = 0
    · rw [if_pos c0, if_pos c0, xo_rd_z (show s < 6 by omega) (by decide), xo_rd_z (show s < 7 by omega) (by decide), d1, d2]
      exact ⟨_, _, _, rfl, rfl, hq⟩
    rw [if_neg c0, if_neg c0]
    by_cases c1' : y = 1
    · rw [if_pos c1', if_pos c1', xo_rd_z (show s < 6 by omega) (by decide), xo_rd_z (show s < 7 by omega) (by decide), c1, m1]
      exact ⟨_, _, _, rfl, rfl, hq⟩
    rw [if_neg c1', if_neg c1']
    by_cases c2' : y = 2
    · rw [if_pos c2', if_pos c2', xo_rd_z (show s < 6 by omega) (by decide), xo_rd_z (show s < 7 by omega) (by decide), c2, m2]
      exact ⟨_, _, _, rfl, rfl, hq⟩
    rw [if_neg c2', if_neg c2']
    by_cases c3' : y = 3
    · rw [if_pos c3', if_pos c3', xo_rd_z (show s < 6 by omega) (by decide), xo_rd_z (show s < 7 by omega) (by decide), c3, m3]
      exact ⟨_, _, _, rfl, rfl, hq⟩
    rw [if_neg c3', if_neg c3']
    by_cases c4' : y = 4
    · rw [if_pos c4', if_pos c4', e_lampsFrom hc hpl.1 hs d1 d3, e_mlampsOf hm hn hs d2 d3]
      exact ⟨_, _, _, rfl, rfl, hq⟩
    rw [if_neg c4', if_neg c4']
    exact st_far2 hq
  · rw [if_neg c, if_pos (show zI 0 = 0 from rfl), if_pos (show zI 0 = 0 from rfl)]
    exact st_far1 hq
theorem s_lamps (sc sm : XS) (h : xz_RR sc sm) : ∃ (r : Int32) (sc2 sm2 : XS), F_All_lamps sc = some r ∧ F_Mod_lamps sm = some r ∧ xz_RR sc2 sm2 ∧ sc = sc2 ∧ sm = sm2 := by
  have hq := h
  obtain ⟨⟨n, A, B, C, Kd, P, X, Y, hc, hok, hpl, hkd, hp, hn, hm, hpm⟩, h2, h3, h4, h5⟩ := h
  have h6 := hc.2.1
  refine ⟨zI ((fb_sm (fun s => ls_sm (gl_x A B C n (Kd s) s) (gp_ls A B C n n)) n : Nat) : Int), sc, sm, ?_, ?_, hq, rfl, rfl⟩
  · unfold F_All_lamps
    refine (lp_go (fun i => (zI ((fb_sm (fun s => ls_sm (gl_x A B C n (Kd s) s) (gp_ls A B C n n)) i : Nat) : Int), zI (i : Int))) n (zI ((fb_sm (fun s => ls_sm (gl_x A B C n (Kd s) s) (gp_ls A B C n n)) n : Nat) : Int)) (by rfl) (by omega) (fun s hs => ?_) ?_).trans rfl
    · obtain ⟨d1, d2, d3⟩ := hkd s hs
      unfold F_All_lamps_b4
      dsimp only
      rw [hc.1, if_neg (zI_ge1 (by omega) hs), e_lampsFrom hc hpl.1 hs d1 d3, Option.bind_some, xo_nm_b, xo_nm_b, zI_suc, zI_addn, fb_sm_succ]
    · unfold F_All_lamps_b4
      dsimp only
      rw [hc.1, if_pos (zI_rfl _)]
  · unfold F_Mod_lamps
    refine (lp_go (fun i => (zI ((fb_sm (fun s => ls_sm (gl_x A B C n (Kd s) s) (gp_ls A B C n n)) i : Nat) : Int), zI (i : Int))) n (zI ((fb_sm (fun s => ls_sm (gl_x A B C n (Kd s) s) (gp_ls A B C n n)) n : Nat) : Int)) (by rfl) (by omega) (fun s hs => ?_) ?_).trans rfl
    · obtain ⟨d1, d2, d3⟩ := hkd s hs
      unfold F_Mod_lamps_b4
      dsimp only
      rw [hn, if_neg (zI_ge1 (by omega) hs), e_mlampsOf hm hn hs d2 d3, Option.bind_some, xo_nm_b, xo_nm_b, zI_suc, zI_addn, fb_sm_succ]
    · unfold F_Mod_lamps_b4
      dsimp only
      rw [hn, if_pos (zI_rfl _)]
end
section
/-! a line that is thought of -/
def ex (A : Nat → Int) (n : Nat) (p : Int) (s : Nat) : Int := if s = n then p else A s
theorem ex_n (A : Nat → Int) (n : Nat) (p : Int) : ex A n p n = p := if_pos rfl
theorem ex_o {A : Nat → Int} {n s : Nat} (p : Int) (h : s < n) : ex A n p s = A s := if_neg (by omega)
theorem ex_t {A B : Nat → Int} {n s : Nat} {p q : Int} (u v : Int) (h : s < n) : gz_t (ex A n p) (ex B n q) u v s = gz_t A B u v s := by
  unfold gz_t; rw [ex_o p h, ex_o q h]
theorem ex_h {A B C : Nat → Int} {n s : Nat} {p q r : Int} (x y w : Int) (h : s < n) : gz_h (ex A n p) (ex B n q) (ex C n r) s x y w = gz_h A B C s x y w := by
  unfold gz_h; rw [ex_o p h, ex_o q h, ex_o r h]
theorem ex_hn {A B C : Nat → Int} {n : Nat} {p q r : Int} (x y w : Int) : gz_h (ex A n p) (ex B n q) (ex C n r) n x y w = p * x + q * y - r * w := by
  unfold gz_h; rw [ex_n, ex_n, ex_n]
theorem gz_t_anti (a b : Nat → Int) (i j : Nat) : gz_t a b (a i) (b i) j = -(gz_t a b (a j) (b j) i) := by unfold gz_t; grind
theorem ex_ok {A B : Nat → Int} {n : Nat} {p q : Int} (hok : gz_ok A B n) (hpq : p ≠ 0 ∨ q ≠ 0) (hne : ∀ t, t < n → gz_t A B p q t ≠ 0) : gz_ok (ex A n p) (ex B n q) (n + 1) := by
  refine ⟨fun s hs => ?_, fun i j hi hj hij => ?_⟩
  · by_cases e : s = n
    · subst e; rw [ex_n, ex_n]; exact hpq
    · rw [ex_o p (by omega), ex_o q (by omega)]; exact hok.1 s (by omega)
  · by_cases ei : i = n
    · subst ei
      rw [ex_n, ex_n, ex_t _ _ (by omega)]
      exact hne j (by omega)
    · by_cases ej : j = n
      · subst ej
        rw [gz_t_anti, ex_n, ex_n, ex_t _ _ (by omega)]
        have := hne i (by omega)
        omega
      · rw [ex_t _ _ (by omega), ex_o p (by omega), ex_o q (by omega)]
        exact hok.2 i j (by omega) (by omega) hij
theorem ex_gB {A B C : Nat → Int} {n : Nat} {p q r : Int} (h : gB A B C n) (hp : ab 9 p) (hq : ab 9 q) (hr : ab 99 r) : gB (ex A n p) (ex B n q) (ex C n r) (n + 1) := by
  intro s hs
  by_cases e : s = n
  · subst e; rw [ex_n, ex_n, ex_n]; exact ⟨hp, hq, hr⟩
  · rw [ex_o p (by omega), ex_o q (by omega), ex_o r (by omega)]; exact h s (by omega)
theorem or_bit {m n : Nat} (hm : m < 2 ^ n) (s : Nat) : (m ||| 2 ^ n).testBit s = if s = n then true else m.testBit s := by
  rw [Nat.testBit_or, Nat.testBit_two_pow]
  by_cases e : s = n
  · subst e; simp
  · have : ¬ n = s := fun z => e z.symm
    simp [e, this]
theorem cut_new {A B C : Nat → Int} {n : Nat} {p q r : Int} (h6 : n ≤ 6) (hok : gz_ok A B n) (hpq : p ≠ 0 ∨ q ≠ 0) (hne : ∀ t, t < n → gz_t A B p q t ≠ 0) {m : Nat} (hm : m < 2 ^ n) : (0 < gy_c (ex A n p) (ex B n q) (ex C n r) (n + 1) m ∧ 0 < gy_c (ex A n p) (ex B n q) (ex C n r) (n + 1) (m ||| 2 ^ n)) ↔ gc_K A B C p q r n n m = true := by
  have hok2 := ex_ok hok hpq hne
  have hm2 : m < 2 ^ (n + 1) := by rw [Nat.pow_succ]; omega
  have hor : m ||| 2 ^ n < 2 ^ (n + 1) := Nat.or_lt_two_pow hm2 (Nat.pow_lt_pow_right (by decide) (by omega))
  have hbn : m.testBit n = false := Nat.testBit_lt_two_pow hm
  rw [gy_c_pos (by omega) hok2, gy_c_pos (by omega) hok2, gc_K_iff, gz_new_iff hpq hne]
  constructor
  · rintro ⟨⟨-, x, y, w, hw, h1⟩, ⟨-, x2, y2, w2, hw2, h2⟩⟩
    refine ⟨hm, ⟨x, y, w, hw, ?_, fun s hs => ?_⟩, ⟨x2, y2, w2, hw2, ?_, fun s hs => ?_⟩⟩
    · have := h1 n (by omega) trivial
      rw [ex_hn, hbn] at this
      have h3 : ¬ 0 < p * x + q * y - r * w := fun z => by have := this.2.mpr z; cases this
      omega
    · have := h1 s (by omega) trivial
      rw [ex_h _ _ _ hs] at this
      exact this
    · have := h2 n (by omega) trivial
      rw [ex_hn, or_bit hm, if_pos rfl] at this
      exact this.2.mp rfl
    · have := h2 s (by omega) trivial
      rw [ex_h _ _ _ hs, or_bit hm, if_neg (by omega)] at this
      exact this
  · rintro ⟨-, ⟨x, y, w, hw, hl, h1⟩, ⟨x2, y2, w2, hw2, hl2, h2⟩⟩
    refine ⟨⟨hm2, x, y, w, hw, fun s hs _ => ?_⟩, ⟨hor, x2, y2, w2, hw2, fun s hs _ => ?_⟩⟩
    · by_cases e : s = n
      · subst e
        rw [ex_hn, hbn]
        exact ⟨by omega, fun z => (by cases z), fun z => (by omega)⟩
      · rw [ex_h _ _ _ (by omega)]
        exact h1 s (by omega)
    · by_cases e : s = n
      · subst e
        rw [ex_hn, or_bit hm, if_pos rfl]
        exact ⟨by omega, fun _ => hl2, fun _ => rfl⟩
      · rw [ex_h _ _ _ (by omega), or_bit hm, if_neg e]
        exact h2 s (by omega)
theorem e_think {st : XS} {n : Nat} {A B C : Nat → Int} {p q r : Int} (h6 : n ≤ 6) (hm : mL st n A B C) (hn : st.1 0 0 = zI (n : Int)) (hp : ab 9 p) (hq : ab 9 q) (hr : ab 99 r) : ∃ t, F_Mod_think (zI p) (zI q) (zI r) st = some t ∧ mS n st t ∧ mL t (n + 1) (ex A n p) (ex B n q) (ex C n r) := by
  unfold F_Mod_think
  rw [hn, xo_ck_z (show n < 7 by omega) (by decide), Option.bind_some, xo_nm_b, zI_cl (by omega)]
  have e1 : ∀ f : Nat → Int32, (xs_A st 2 f).1 0 0 = zI (n : Int) := fun f => by rw [xs_A_n (by decide), hn]
  rw [e1, xo_ck_z (show n < 7 by omega) (by decide), Option.bind_some, xo_nm_b, zI_cl (by omega)]
  have e2 : ∀ f g : Nat → Int32, (xs_A (xs_A st 2 f) 3 g).1 0 0 = zI (n : Int) := fun f g => by rw [xs_A_n (by decide), e1]
  rw [e2, xo_ck_z (show n < 7 by omega) (by decide), Option.bind_some, xo_nm_b, zI_cl (by omega)]
  have e3 : ∀ f : Nat → Int32, (xs_A st 2 f).1 3 = st.1 3 := fun f => xs_A_n (by decide)
  have e4 : ∀ f g : Nat → Int32, (xs_A (xs_A st 2 f) 3 g).1 4 = st.1 4 := fun f g => by rw [xs_A_n (by decide), xs_A_n (by decide)]
  rw [e3, e4]
  generalize ht : xs_A (xs_A (xs_A st 2 (upd (st.1 2) n (zI p))) 3 (upd (st.1 3) n (zI q))) 4 (upd (st.1 4) n (zI r)) = t
  have t2 : t.1 2 = upd (st.1 2) n (zI p) := by rw [← ht, xs_A_n (by decide), xs_A_n (by decide), xs_A_e]
  have t3 : t.1 3 = upd (st.1 3) n (zI q) := by rw [← ht, xs_A_n (by decide), xs_A_e]
  have t4 : t.1 4 = upd (st.1 4) n (zI r) := by rw [← ht, xs_A_e]
  have to : ∀ k, k ≠ 2 → k ≠ 3 → k ≠ 4 → t.1 k = st.1 k := fun k h2 h3 h4 => by rw [← ht, xs_A_n h4, xs_A_n h3, xs_A_n h2]
  refine ⟨t, rfl, ⟨fun k hk => to k (by omega) (by omega) (by omega), fun j _ => by rw [to 0 (by omega) (by omega) (by omega)], fun s hs => ?_⟩, by omega, fun s hs => ?_, ex_gB hm.2.2 hp hq hr⟩
  · rw [t2, t3, t4, upd_n (by omega), upd_n (by omega), upd_n (by omega)]
    exact ⟨rfl, rfl, rfl⟩
  · rw [t2, t3, t4]
    by_cases e : s = n
    · subst e
      rw [upd_e, upd_e, upd_e, ex_n, ex_n, ex_n]
      exact ⟨rfl, rfl, rfl⟩
    · rw [upd_n e, upd_n e, upd_n e, ex_o p (by omega), ex_o q (by omega), ex_o r (by omega)]
      exact hm.2.1 s (by omega)
/-- the line is thought of, and all laid with it -/
theorem e_thlay {st : XS} {n : Nat} {A B C : Nat → Int} {p q r : Int} (h6 : n ≤ 6) (hm : mL st n A B C) (hn : st.1 0 0 = zI (n : Int)) (hp : ab 9 p) (hq : ab 9 q) (hr : ab 99 r) : ∃ t1 t, F_Mod_think (zI p) (zI q) (zI r) st = some t1 ∧ F_Mod_lay ((t1.1 0 0) + (1 : Int32)) t1 = some t ∧ mS n st t ∧ ∀ q', q' < 128 → t.1 18 q' = zI ((gy_c (ex A n p) (ex B n q) (ex C n r) (n + 1) q' : Nat) : Int) := by
  obtain ⟨t1, g1, g2, g3⟩ := e_think h6 hm hn hp hq hr
  obtain ⟨t, k1, k2⟩ := e_layL g3
  have e : (t1.1 0 0) + (1 : Int32) = zI ((n + 1 : Nat) : Int) := by rw [g2.2.1 0 (by omega), hn, zI_suc]
  exact ⟨t1, t, g1, by rw [e]; exact k1, mS_trans g2 (mS_u k2.1), fun q' hq' => (k2.2.1 q' hq').1⟩
theorem e_cuts {t : XS} {n : Nat} {A B C : Nat → Int} {p q r : Int} (h6 : n ≤ 6) (hok : gz_ok A B n) (hpq : p ≠ 0 ∨ q ≠ 0) (hne : ∀ t, t < n → gz_t A B p q t ≠ 0) (hn : t.1 0 0 = zI (n : Int)) (h : ∀ q', q' < 128 → t.1 18 q' = zI ((gy_c (ex A n p) (ex B n q) (ex C n r) (n + 1) q' : Nat) : Int)) {m : Nat} (hm : m < 2 ^ n) : F_Mod_cuts (zI (m : Int)) t = some (zI (if gc_K A B C p q r n n m = true then 1 else 0)) := by
  have h64 := p2_64 h6
  have hor : m ||| 2 ^ n < 128 := by
    have hm2 : m < 2 ^ (n + 1) := by rw [Nat.pow_succ]; omega
    have : m ||| 2 ^ n < 2 ^ (n + 1) := Nat.or_lt_two_pow hm2 (Nat.pow_lt_pow_right (by decide) (by omega))
    have := p2_128 (show n + 1 ≤ 7 by omega)
    omega
  have hc := cut_new (C := C) (r := r) h6 hok hpq hne hm
  have l1 := gy_c_le (ex A n p) (ex B n q) (ex C n r) (show n + 1 ≤ 7 by omega) m
  have l2 := gy_c_le (ex A n p) (ex B n q) (ex C n r) (show n + 1 ≤ 7 by omega) (m ||| 2 ^ n)
  unfold F_Mod_cuts
  rw [xo_rd_z (show m < 128 by omega) (by decide), Option.bind_some, h m (by omega), hn, zI_bit n (by omega), zI_or, xo_rd_z hor (by decide), Option.bind_some, h _ hor]
  by_cases c1 : 0 < gy_c (ex A n p) (ex B n q) (ex C n r) (n + 1) m
  · rw [if_neg (by rw [zI_0, zI_le (zB_n (by omega)) (by decide)]; omega)]
    by_cases c2 : 0 < gy_c (ex A n p) (ex B n q) (ex C n r) (n + 1) (m ||| 2 ^ n)
    · rw [if_neg (by rw [zI_0, zI_le (zB_n (by omega)) (by decide)]; omega), if_pos (hc.mp ⟨c1, c2⟩)]; rfl
    · rw [if_pos (by rw [zI_0, zI_le (zB_n (by omega)) (by decide)]; omega), if_neg (fun z => c2 (hc.mpr z).2)]; rfl
  · rw [if_pos (by rw [zI_0, zI_le (zB_n (by omega)) (by decide)]; omega), if_neg (fun z => c1 (hc.mpr z).1)]; rfl
theorem e_whyNew {st : XS} {n : Nat} {A B C : Nat → Int} (h : cL st n A B C) {a b c : Int} (ha : zB a) (hb : zB b) (hc : zB c) : F_All_whyNoNewLine (zI a) (zI b) (zI c) st = some (zI (if gwhy a b c = 0 then (if an (fun s => decide (gz_t A B a b s = 0)) n = true then -3 else 0) else gwhy a b c)) := by
  unfold F_All_whyNoNewLine
  rw [e_why ha hb hc, Option.bind_some]
  by_cases h0 : gwhy a b c = 0
  · obtain ⟨h9, h9', -, -⟩ := gwhy_0 h0
    rw [h0, if_pos (show zI 0 = 0 from rfl), if_pos rfl, e_hasDir h h9 h9', Option.bind_some]
    by_cases hd : an (fun s => decide (gz_t A B a b s = 0)) n = true
    · rw [if_pos hd, if_pos hd, if_neg (by decide)]; rfl
    · rw [if_neg hd, if_neg hd, if_pos (show zI 0 = 0 from rfl)]
  · have : ¬ zI (gwhy a b c) = (0 : Int32) := by
      rcases gwhy_or a b c with e | e | e | e <;> rw [e] at h0 ⊢
      · decide
      · decide
      · decide
      · exact absurd rfl h0
    rw [if_neg this, if_neg h0]
theorem an_dir {A B : Nat → Int} {n : Nat} {a b : Int} (h : ¬ an (fun s => decide (gz_t A B a b s = 0)) n = true) : ∀ t, t < n → gz_t A B a b t ≠ 0 := fun t ht hz => h (an_iff.mpr ⟨t, ht, by simp [hz]⟩)
end
section
/-! next: how many a told line would cut, and whether that of a plot -/
theorem gc_K_big {A B C : Nat → Int} {p q r : Int} {n m : Nat} (h : 2 ^ n ≤ m) : gc_K A B C p q r n n m = false := by
  rw [Bool.eq_false_iff, Ne, gc_K_iff]
  omega
theorem ct_pw {P : Nat → Bool} {n : Nat} (h6 : n ≤ 6) (h : ∀ m, 2 ^ n ≤ m → P m = false) : fb_ct P 64 = fb_ct P (2 ^ n) := by
  have h64 := p2_64 h6
  obtain ⟨d, hd⟩ : ∃ d, 64 = 2 ^ n + d := ⟨64 - 2 ^ n, by omega⟩
  rw [hd, fb_ct_split]
  have : fb_ct (fun k => P (2 ^ n + k)) d = 0 := fb_ct_zero.mpr (fun k _ => h _ (by omega))
  omega
theorem gw_b_pw (A B C : Nat → Int) (n : Nat) (x y : Int) : gw_b A B C n x y < 2 ^ n := bm_lt _ n
theorem e_hasN (P : Nat → Bool) {k : Nat} (hk : k < 64) : F_All_has (lS P) (zI (k : Int)) = some (zI (if P k = true then 1 else 0)) := by
  rw [e_has P (zB_n (by omega))]
  have e : (↑k : Int).toNat = k := rfl
  rw [e]
  by_cases hQ : P k = true
  · rw [if_pos (show (0 : Int) ≤ (k : Int) ∧ (k : Int) < 64 ∧ P k = true from ⟨by omega, by omega, hQ⟩), if_pos hQ]
  · rw [if_neg (show ¬ ((0 : Int) ≤ (k : Int) ∧ (k : Int) < 64 ∧ P k = true) from fun z => hQ z.2.2), if_neg hQ]
theorem mL_S {st t : XS} {n : Nat} {A B C : Nat → Int} (h : mL st n A B C) (e : mS n st t) : mL t n A B C := by
  refine ⟨h.1, fun s hs => ?_, h.2.2⟩
  obtain ⟨g1, g2, g3⟩ := e.2.2 s hs
  rw [g1, g2, g3]; exact h.2.1 s hs
theorem pM_S {st t : XS} {n P : Nat} {X Y : Nat → Int} (h : pM st P X Y) (e : mS n st t) : pM t P X Y := by
  unfold pM at *
  rw [e.2.1 5 (by omega), e.1 6 (by omega), e.1 7 (by omega)]; exact h
theorem RR_S {sc sm tm : XS} {n : Nat} (h : xz_RR sc sm) (hn : sm.1 0 0 = zI (n : Int)) (hn6 : n ≤ 7) (g : mS n sm tm) : xz_RR sc tm := by
  refine RR_mS h (fun n2 A B C Kd P X Y hR => ?_)
  have h1 := hR.2.2.2.2.2.1
  have h2 := hR.1.2.1
  rw [hn, zI_eq (zB_n (by omega)) (zB_n (by omega)), Int.ofNat_inj] at h1
  subst h1
  exact g
/-- what next answers when the line is as it must be -/
theorem s_next_ok (sc sm : XS) (h : xz_RR sc sm) {a b c d : Int} (hd : zB d) {n : Nat} {A B C : Nat → Int} {Kd : Nat → Nat} {P : Nat} {X Y : Nat → Int} (hR : xR sc sm n A B C Kd P X Y) (h0 : gwhy a b c = 0) (hdir : ∀ t, t < n → gz_t A B a b t ≠ 0) (hdP : d = -1 ∨ (0 ≤ d ∧ d < (P : Int))) :
    ∃ (r : Int32) (sc2 sm2 : XS), (if zI d = (-1 : Int32) then (F_Pla_cutBy (zI a) (zI b) (zI c) sc).bind fun v2 => (F_Lng_bitCount v2).bind fun v3 => some (v3, sc) else (F_Pla_quarterOfPlot (zI d) sc).bind fun v4 => if v4 = (-9 : Int32) then some ((-9 : Int32), sc) else (F_Pla_cutBy (zI a) (zI b) (zI c) sc).bind fun v5 => (F_All_has v5 v4).bind fun v6 => if v6 = (0 : Int32) then some ((0 : Int32), sc) else some ((1 : Int32), sc)) = some (r, sc2) ∧
      ((F_Mod_think (zI a) (zI b) (zI c) sm).bind fun t8 => (F_Mod_lay ((t8.1 0 0) + (1 : Int32)) t8).bind fun t9 => if zI d = (-1 : Int32) then (xo_lp (fun q : (Int32 × Int32) => F_Mod_next_b128 t9 q.1 q.2) 1000000 ((0 : Int32), (0 : Int32))).bind (fun o10 => some (o10, t9)) else (F_Mod_whereIs (zI d) t9).bind fun v11 => if v11 = (-9 : Int32) then some ((-9 : Int32), t9) else (F_Mod_cuts v11 t9).bind fun v12 => if v12 = (0 : Int32) then some ((0 : Int32), t9) else some ((1 : Int32), t9)) = some (r, sm2) ∧ xz_RR sc2 sm2 := by
  obtain ⟨hc, hok, hpl, hkd, hp, hn, hm, hpm⟩ := hR
  have h6 := hc.2.1
  have h64 := p2_64 h6
  obtain ⟨w1, w2, w3, w4⟩ := gwhy_0 h0
  obtain ⟨t1, t, g1, g2, g3, g4⟩ := e_thlay h6 hm hn w1 w2 w3
  have hnt : t.1 0 0 = zI (n : Int) := (g3.2.1 0 (by omega)).trans hn
  have hRR : xz_RR sc t := RR_S h hn (by omega) g3
  have hcu := e_cut hc w1 w2 w3
  rw [g1, Option.bind_some, g2, Option.bind_some, hcu]
  by_cases c1 : d = -1
  · subst c1
    rw [if_pos (show zI (-1) = (-1 : Int32) from rfl), if_pos (show zI (-1) = (-1 : Int32) from rfl), Option.bind_some, e_count, Option.bind_some, ct_pw h6 (fun m hm => gc_K_big hm)]
    rw [lp_cnt (gc_K A B C a b c n n) (2 ^ n) (by omega) (fun k c hk => ?_) (fun c => ?_)]
    · exact ⟨_, _, _, rfl, rfl, hRR⟩
    · unfold F_Mod_next_b128
      dsimp only
      rw [hnt, zI_bit n (by omega), if_neg (zI_ge1 (by omega) hk), e_cuts h6 hok w4 hdir hnt g4 hk, Option.bind_some, xo_nm_b, xo_nm_b, xo_nm_b, zI_suc, zI_suc]
      by_cases hk1 : gc_K A B C a b ‹Int› n n k = true
      · rw [if_pos hk1, if_neg (by decide), if_pos hk1]
      · rw [if_neg hk1, if_pos (show zI 0 = 0 from rfl), if_neg hk1]; rfl
    · unfold F_Mod_next_b128
      dsimp only
      rw [hnt, zI_bit n (by omega), if_pos (zI_rfl _)]
  · obtain ⟨p, rfl⟩ : ∃ p : Nat, d = p := ⟨d.toNat, by omega⟩
    have hne : ¬ zI (p : Int) = (-1 : Int32) := by
      rw [show (-1 : Int32) = zI (-1) from rfl, zI_eq hd (by decide)]; exact c1
    rw [if_neg hne, if_neg hne, e_qPlot hc hp (show p < P by omega), Option.bind_some, e_mwhere (mL_S hm g3) hnt (pM_S hpm g3) (show p < P by omega)]
    simp only [Option.bind_some]
    by_cases hz : gw_z A B C n (X p) (Y p) = true
    · have e9 := (gw_9 (A := A) (B := B) (C := C) h6 _ _).mpr hz
      rw [if_pos e9, if_pos e9]
      exact ⟨_, _, _, rfl, rfl, hRR⟩
    · have e9 : ¬ zI (gw A B C n (X p) (Y p)) = (-9 : Int32) := fun z => hz ((gw_9 h6 _ _).mp z)
      have hb := gw_b_pw A B C n (X p) (Y p)
      rw [if_neg e9, if_neg e9, gw_n hz, e_hasN _ (show gw_b A B C n (X p) (Y p) < 64 by omega), Option.bind_some, e_cuts h6 hok w4 hdir hnt g4 hb, Option.bind_some]
      by_cases hk1 : gc_K A B C a b c n n (gw_b A B C n (X p) (Y p)) = true
      · rw [if_pos hk1, if_neg (show ¬ zI 1 = 0 by decide), if_neg (show ¬ zI 1 = 0 by decide)]
        exact ⟨_, _, _, rfl, rfl, hRR⟩
      · rw [if_neg hk1, if_pos (show zI 0 = 0 from rfl), if_pos (show zI 0 = 0 from rfl)]
        exact ⟨_, _, _, rfl, rfl, hRR⟩
theorem s_next (sc sm : XS) (x1 x2 x3 x4 : Int32) (h : xz_RR sc sm) : ∃ (r : Int32) (sc2 sm2 : XS), F_All_next x1 x2 x3 x4 sc = some (r, sc2) ∧ F_Mod_next x1 x2 x3 x4 sm = some (r, sm2) ∧ xz_RR sc2 sm2 := by
  obtain ⟨a, ha, rfl⟩ := zI_of x1
  obtain ⟨b, hb, rfl⟩ := zI_of x2
  obtain ⟨c, hc9, rfl⟩ := zI_of x3
  obtain ⟨d, hd, rfl⟩ := zI_of x4
  have hq := h
  obtain ⟨⟨n, A, B, C, Kd, P, X, Y, hR⟩, h2, h3, h4, h5⟩ := h
  have hR0 := hR
  obtain ⟨hc, hok, hpl, hkd, hp, hn, hm, hpm⟩ := hR
  have h6 := hc.2.1
  have main : (d = -1 ∨ (0 ≤ d ∧ d < (P : Int))) → ∃ (r : Int32) (sc2 sm2 : XS), F_All_next_m24 (zI a) (zI b) (zI c) (zI d) sc = some (r, sc2) ∧ F_Mod_next_m21 (zI a) (zI b) (zI c) (zI d) sm = some (r, sm2) ∧ xz_RR sc2 sm2 := by
    intro hdP
    rw [e_mnext ha hb hc9]
    unfold F_All_next_m24 F_Mod_next_m39 F_Mod_next_m64 F_Mod_next_m92 F_Mod_next_m79
    rw [e_whyNew hc ha hb hc9, Option.bind_some]
    rcases gwhy_or a b c with e | e | e | e
    · rw [e, if_neg (show ¬ (-4 : Int) = 0 by decide), if_neg (show ¬ zI (-4) = 0 by decide), if_pos (show (-4 : Int) = -4 from rfl)]
      exact st_no4 hq
    · rw [e, if_neg (show ¬ (-6 : Int) = 0 by decide), if_neg (show ¬ zI (-6) = 0 by decide), if_neg (show ¬ (-6 : Int) = -4 by decide), if_pos (show (-6 : Int) = -6 from rfl)]
      exact st_no6 hq
    · rw [e, if_neg (show ¬ (-3 : Int) = 0 by decide), if_neg (show ¬ zI (-3) = 0 by decide), if_neg (show ¬ (-3 : Int) = -4 by decide), if_neg (show ¬ (-3 : Int) = -6 by decide), if_pos (show (-3 : Int) = -3 from rfl)]
      exact st_no3 hq
    · obtain ⟨w1, w2, w3, w4⟩ := gwhy_0 e
      rw [e, if_pos rfl, if_neg (by decide : ¬ (0 : Int) = -4), if_neg (by decide : ¬ (0 : Int) = -6), if_neg (by decide : ¬ (0 : Int) = -3), hn, e_misDir hm w1 w2, Option.bind_some]
      by_cases hdr : an (fun s => decide (gz_t A B a b s = 0)) n = true
      · rw [if_pos hdr, if_pos hdr, if_neg (show ¬ zI (-3) = 0 by decide), if_neg (show ¬ zI 1 = 0 by decide)]
        exact st_no3 hq
      · rw [if_neg hdr, if_neg hdr, if_pos (show zI 0 = 0 from rfl), if_pos (show zI 0 = 0 from rfl)]
        exact s_next_ok sc sm hq hd hR0 e (an_dir hdr) hdP
  unfold F_All_next F_Mod_next
  by_cases c1 : d = -1
  · subst c1
    rw [if_pos (show zI (-1) = (-1 : Int32) from rfl), if_pos (show zI (-1) = (-1 : Int32) from rfl)]
    exact main (Or.inl rfl)
  · have hne : ¬ zI d = (-1 : Int32) := by
      rw [show (-1 : Int32) = zI (-1) from rfl, zI_eq hd (by decide)]; exact c1
    rw [if_neg hne, if_neg hne, e_hasPlot hp hd, e_misPlot hpm.1 hpm.2.1 hd, Option.bind_some, Option.bind_some]
    by_cases cP : 0 ≤ d ∧ d < (P : Int)
    · rw [if_pos cP, if_neg (by decide), if_neg (by decide)]
      exact main (Or.inr cP)
    · rw [if_neg cP, if_pos (show zI 0 = 0 from rfl), if_pos (show zI 0 = 0 from rfl)]
      exact st_no1 hq
end
section
/-! spare -/
def ix (o : Int) (i : Nat) : Int32 := zI ((i : Int) - o)
theorem ix_suc (o : Int) (i : Nat) : ix o i + (1 : Int32) = ix o (i + 1) := by
  unfold ix
  rw [zI_1, zI_add, show (i : Int) - o + 1 = ((i + 1 : Nat) : Int) - o by omega]
theorem ix_B {o : Int} {i : Nat} (h1 : -1000 ≤ o) (h2 : o ≤ 1000) (h3 : i ≤ 1000) : zB ((i : Int) - o) := ⟨by omega, by omega⟩
theorem ix_ab {i : Nat} (h : i < 199) : ab 99 ((i : Int) - 99) := by unfold ab; omega
theorem ix_gt {i : Nat} (h : i ≤ 1000) : (99 : Int32) < ix 99 i ↔ 199 ≤ i := by
  unfold ix
  rw [show (99 : Int32) = zI 99 from rfl, zI_lt (by decide) (ix_B (by omega) (by omega) h)]; omega
theorem ix_ge {i : Nat} (h : i ≤ 1000) : (100 : Int32) ≤ ix 99 i ↔ 199 ≤ i := by
  unfold ix
  rw [show (100 : Int32) = zI 100 from rfl, zI_le (by decide) (ix_B (by omega) (by omega) h)]; omega
def sp_b (A B C X Y : Nat → Int) (n : Nat) (a b r : Int) (k : Nat) : Bool := decide (a * X k + b * Y k = r) || (!(gw_z A B C n (X k) (Y k)) && gc_K A B C a b r n n (gw_b A B C n (X k) (Y k)))
theorem sp_iff {A B C X Y : Nat → Int} {n P : Nat} {a b r : Int} (h6 : n ≤ 6) : an (sp_b A B C X Y n a b r) P = true ↔ an (fun k => decide (a * X k + b * Y k = r)) P = true ∨ ∃ m, m < 64 ∧ gc_K A B C a b r n n m = true ∧ gq_P A B C X Y n P m = true := by
  unfold gq_P
  rw [an_iff, an_iff]
  constructor
  · rintro ⟨k, hk, h⟩
    unfold sp_b at h
    rw [Bool.or_eq_true, Bool.and_eq_true, Bool.not_eq_true'] at h
    rcases h with h | ⟨h1, h2⟩
    · exact Or.inl ⟨k, hk, h⟩
    · refine Or.inr ⟨gw_b A B C n (X k) (Y k), gw_b_lt h6 _ _, h2, an_iff.mpr ⟨k, hk, ?_⟩⟩
      rw [gw_n (by rw [h1]; decide)]; simp
  · rintro (⟨k, hk, h⟩ | ⟨m, hm, h1, h2⟩)
    · exact ⟨k, hk, by unfold sp_b; rw [h, Bool.true_or]⟩
    · obtain ⟨k, hk, h3⟩ := an_iff.mp h2
      refine ⟨k, hk, ?_⟩
      rw [decide_eq_true_eq] at h3
      unfold sp_b
      by_cases hz : gw_z A B C n (X k) (Y k) = true
      · rw [gw_p hz] at h3; omega
      · rw [gw_n hz] at h3
        have e : m = gw_b A B C n (X k) (Y k) := by omega
        rw [← e, h1]
        simp [hz]
theorem lS_z {S : Nat → Bool} : (lg_cmp (lS S) (0 : Int64) = (0 : Int32)) ↔ ∀ m, m < 64 → S m = false := by
  rw [lg_cmp_eq, lS_0]
  constructor
  · intro h m hm
    exact lS_inj h m hm
  · intro h
    exact lS_cong h
def sa (P : Nat → Bool) : Int32 := zI (if fi P 199 = -9 then -999 else fi P 199 - 99)
theorem sa_hit {P : Nat → Bool} {i : Nat} (h : fi P i = -9) (hp : P i = true) (hi : i < 199) : sa P = ix 99 i := by
  unfold sa ix
  rw [fi_hit h hp hi, if_neg (by omega)]
theorem sa_no {P : Nat → Bool} (h : fi P 199 = -9) : sa P = (-999 : Int32) := by
  unfold sa
  rw [if_pos h]; rfl
def sg (A B C X Y : Nat → Int) (n P : Nat) (a b : Int) (i : Nat) : Bool := !(an (sp_b A B C X Y n a b ((i : Int) - 99)) P)
theorem e_spare {sc : XS} {n P : Nat} {A B C X Y : Nat → Int} (hc : cL sc n A B C) (hp : pL sc P X Y) {a b : Int} (ha : ab 9 a) (hb : ab 9 b) : ∃ r, xo_lp (fun q : Int32 => F_All_spare_b31 (zI a) (zI b) (lS (gq_P A B C X Y n P)) sc q) 1000000 (-99 : Int32) = some r ∧ Sum.elim (fun o => o) (fun _ => (-999 : Int32)) r = sa (sg A B C X Y n P a b) := by
  have h6 := hc.2.1
  refine lp_ex (fun (i : Nat) (x : Int32) => x = ix 99 i ∧ fi (sg A B C X Y n P a b) i = -9) _ 199 1000000 _ (by omega) ⟨rfl, rfl⟩ ?_ ?_
  · rintro i x hi ⟨rfl, h2⟩
    have hr := ix_ab hi
    unfold F_All_spare_b31
    rw [if_neg (fun z => by have := (ix_gt (by omega)).mp z; omega), xo_nm_b, ix_suc]
    have e1 : F_Tow_hasPlotOn (zI a) (zI b) (ix 99 i) sc = some (zI (if an (fun k => decide (a * X k + b * Y k = (i : Int) - 99)) P = true then 1 else 0)) := e_hasPlotOn hp ha hb hr
    have e2 : F_Pla_cutBy (zI a) (zI b) (ix 99 i) sc = some (lS (gc_K A B C a b ((i : Int) - 99) n n)) := e_cut hc ha hb hr
    rw [e1, Option.bind_some, e2, Option.bind_some, lS_and]
    have hs := sp_iff (A := A) (B := B) (C := C) (X := X) (Y := Y) (P := P) (a := a) (b := b) (r := (i : Int) - 99) h6
    by_cases c1 : an (fun k => decide (a * X k + b * Y k = (i : Int) - 99)) P = true
    · rw [if_pos c1, if_neg (by decide)]
      refine Or.inl ⟨_, rfl, rfl, ?_⟩
      rw [fi_suc, if_pos h2, if_neg (by unfold sg; rw [hs.mpr (Or.inl c1)]; decide)]
    · rw [if_neg c1, if_pos (show zI 0 = 0 from rfl)]
      by_cases c2 : ∃ m, m < 64 ∧ gc_K A B C a b ((i : Int) - 99) n n m = true ∧ gq_P A B C X Y n P m = true
      · rw [if_neg (by
          rw [lS_z]
          intro z
          obtain ⟨m, g1, g2, g3⟩ := c2
          have := z m g1
          rw [g2, g3] at this
          cases this)]
        refine Or.inl ⟨_, rfl, rfl, ?_⟩
        rw [fi_suc, if_pos h2, if_neg (by unfold sg; rw [hs.mpr (Or.inr c2)]; decide)]
      · rw [if_pos (by
          rw [lS_z]
          intro m hm
          rw [Bool.eq_false_iff, Ne, Bool.and_eq_true]
          exact fun z => c2 ⟨m, hm, z.1, z.2⟩)]
        refine Or.inr ⟨_, rfl, ?_⟩
        have hg : sg A B C X Y n P a b i = true := by
          unfold sg
          rw [Bool.not_eq_true', Bool.eq_false_iff, Ne, hs]
          exact fun z => z.elim c1 c2
        rw [sa_hit h2 hg hi]; rfl
  · rintro x ⟨rfl, h2⟩
    unfold F_All_spare_b31
    rw [if_pos ((ix_gt (by omega)).mpr (by omega))]
    exact ⟨_, rfl, by rw [sa_no h2]; rfl⟩
theorem e_sp1 {t : XS} {n P : Nat} {A B C X Y : Nat → Int} {a b r : Int} (h6 : n ≤ 6) (hok : gz_ok A B n) (hpq : a ≠ 0 ∨ b ≠ 0) (hne : ∀ t, t < n → gz_t A B a b t ≠ 0) (ha : ab 9 a) (hb : ab 9 b) (hr : ab 99 r) (hm : mL t n A B C) (hn : t.1 0 0 = zI (n : Int)) (hpm : pM t P X Y) (h : ∀ q', q' < 128 → t.1 18 q' = zI ((gy_c (ex A n a) (ex B n b) (ex C n r) (n + 1) q' : Nat) : Int)) : xo_lp (fun q : (Int32 × Int32) => F_Mod_spare_b98 (zI a) (zI b) (zI r) t q.1 q.2) 1000000 ((1 : Int32), (0 : Int32)) = some (zI (if an (sp_b A B C X Y n a b r) P = true then 0 else 1)) := by
  have h8 := hpm.2.1
  refine lp_run (fun k => (zI (if an (sp_b A B C X Y n a b r) k = true then 0 else 1), zI (k : Int))) P 1000000 (by omega) (fun k hk => ?_) ?_
  · unfold F_Mod_spare_b98
    dsimp only
    obtain ⟨g1, g2, g3, g4⟩ := hpm.2.2 k hk
    have hb2 := gw_b_pw A B C n (X k) (Y k)
    rw [hpm.1, if_neg (zI_ge1 (by omega) hk), e_mwhere hm hn hpm hk, Option.bind_some, xo_rd_z (show k < 8 by omega) (by decide), Option.bind_some, xo_rd_z (show k < 8 by omega) (by decide), Option.bind_some, g1, g2, zI_mul, zI_mul, zI_add, an_suc]
    simp only [xo_nm_b, zI_suc]
    have hc1 : (zI (a * X k + b * Y k) = zI r) ↔ a * X k + b * Y k = r := zI_eq (ab_B (ab_add (ab_mul ha g3) (ab_mul hb g4)) (by decide)) (ab_B hr (by decide))
    by_cases c1 : a * X k + b * Y k = r
    · rw [if_pos (hc1.mpr c1)]
      have e : sp_b A B C X Y n a b r k = true := by unfold sp_b; rw [decide_eq_true c1, Bool.true_or]
      rw [e, Bool.or_true, if_pos rfl]; rfl
    · rw [if_neg (fun z => c1 (hc1.mp z))]
      by_cases hz : gw_z A B C n (X k) (Y k) = true
      · rw [if_pos ((gw_9 h6 _ _).mpr hz)]
        have e : sp_b A B C X Y n a b r k = false := by unfold sp_b; rw [decide_eq_false c1, hz]; rfl
        rw [e, Bool.or_false]
      · have hz' : gw_z A B C n (X k) (Y k) = false := by simpa using hz
        rw [if_neg (fun z => hz ((gw_9 h6 _ _).mp z)), gw_n hz, e_cuts h6 hok hpq hne hn h hb2, Option.bind_some]
        by_cases c2 : gc_K A B C a b r n n (gw_b A B C n (X k) (Y k)) = true
        · rw [if_pos c2, if_neg (by decide)]
          have e : sp_b A B C X Y n a b r k = true := by unfold sp_b; rw [hz', c2]; simp
          rw [e, Bool.or_true, if_pos rfl]; rfl
        · rw [if_neg c2, if_pos (show zI 0 = 0 from rfl)]
          have e : sp_b A B C X Y n a b r k = false := by unfold sp_b; rw [decide_eq_false c1]; simpa using fun _ => c2
          rw [e, Bool.or_false]
  · unfold F_Mod_spare_b98
    dsimp only
    rw [hpm.1, if_pos (zI_rfl _)]
theorem e_mspareL {sm : XS} {n P : Nat} {A B C X Y : Nat → Int} {a b : Int} (h6 : n ≤ 6) (hok : gz_ok A B n) (hpq : a ≠ 0 ∨ b ≠ 0) (hne : ∀ t, t < n → gz_t A B a b t ≠ 0) (ha : ab 9 a) (hb : ab 9 b) (hm : mL sm n A B C) (hn : sm.1 0 0 = zI (n : Int)) (hpm : pM sm P X Y) : ∃ r, xo_lp (fun q : (Int32 × XS) => F_Mod_spare_b69 (zI a) (zI b) q.1 q.2) 1000000 ((-99 : Int32), sm) = some r ∧ ∃ t, mS n sm t ∧ Sum.elim (xo_u2 fun o16 t17 => some (o16, t17)) (fun t18 => some ((-999 : Int32), t18)) r = some (sa (sg A B C X Y n P a b), t) := by
  refine lp_ex (fun (i : Nat) (x : Int32 × XS) => x.1 = ix 99 i ∧ mS n sm x.2 ∧ fi (sg A B C X Y n P a b) i = -9) _ 199 1000000 _ (by omega) ⟨rfl, mS_rfl n sm, rfl⟩ ?_ ?_
  · rintro i ⟨x, t⟩ hi ⟨e1, e2, h2⟩
    dsimp only at e1 e2 h2 ⊢
    subst e1
    have hr := ix_ab hi
    unfold F_Mod_spare_b69
    have hnt : t.1 0 0 = zI (n : Int) := (e2.2.1 0 (by omega)).trans hn
    obtain ⟨t1, t2, g1, g2, g3, g4⟩ := e_thlay h6 (mL_S hm e2) hnt ha hb hr
    have g1' : F_Mod_think (zI a) (zI b) (ix 99 i) t = some t1 := g1
    have hS := mS_trans e2 g3
    have h1 := e_sp1 (X := X) (Y := Y) (P := P) h6 hok hpq hne ha hb hr (mL_S hm hS) ((hS.2.1 0 (by omega)).trans hn) (pM_S hpm hS) g4
    have h1' : xo_lp (fun q : (Int32 × Int32) => F_Mod_spare_b98 (zI a) (zI b) (ix 99 i) t2 q.1 q.2) 1000000 ((1 : Int32), (0 : Int32)) = some (zI (if an (sp_b A B C X Y n a b ((i : Int) - 99)) P = true then 0 else 1)) := h1
    rw [if_neg (fun z => by have := (ix_ge (by omega)).mp z; omega), g1', Option.bind_some, g2, Option.bind_some, h1', Option.bind_some, xo_nm_b, ix_suc]
    by_cases c : an (sp_b A B C X Y n a b ((i : Int) - 99)) P = true
    · rw [if_pos c, if_pos (show zI 0 = 0 from rfl)]
      refine Or.inl ⟨_, rfl, rfl, hS, ?_⟩
      rw [fi_suc, if_pos h2, if_neg (by unfold sg; rw [c]; decide)]
    · rw [if_neg c, if_neg (by decide)]
      have hg : sg A B C X Y n P a b i = true := by
        unfold sg; simpa using c
      refine Or.inr ⟨_, rfl, t2, hS, ?_⟩
      rw [sa_hit h2 hg hi]; rfl
  · rintro ⟨x, t⟩ ⟨e1, e2, h2⟩
    dsimp only at e1 e2 h2 ⊢
    subst e1
    unfold F_Mod_spare_b69
    rw [if_pos ((ix_ge (by omega)).mpr (by omega))]
    exact ⟨_, rfl, t, e2, by rw [sa_no h2]; rfl⟩
theorem s_spare (sc sm : XS) (x1 x2 : Int32) (h : xz_RR sc sm) : ∃ (r : Int32) (sc2 sm2 : XS), F_All_spare x1 x2 sc = some (r, sc2) ∧ F_Mod_spare x1 x2 sm = some (r, sm2) ∧ xz_RR sc2 sm2 := by
  obtain ⟨a, ha, rfl⟩ := zI_of x1
  obtain ⟨b, hb, rfl⟩ := zI_of x2
  have hq := h
  obtain ⟨⟨n, A, B, C, Kd, P, X, Y, hc, hok, hpl, hkd, hp, hn, hm, hpm⟩, h2, h3, h4, h5⟩ := h
  have h6 := hc.2.1
  have hw : F_All_whyNoNewLine (zI a) (zI b) (0 : Int32) sc = some (zI (if gwhy a b 0 = 0 then (if an (fun s => decide (gz_t A B a b s = 0)) n = true then -3 else 0) else gwhy a b 0)) := e_whyNew (c := 0) hc ha hb (by decide)
  rw [e_mspare ha hb]
  unfold F_All_spare F_Mod_spare_m12 F_Mod_spare_m31 F_Mod_spare_m46 F_Mod_spare_m59
  rw [hw, Option.bind_some]
  rcases gwhy_or a b 0 with e | e | e | e
  · rw [e, if_neg (show ¬ (-4 : Int) = 0 by decide), if_neg (show ¬ zI (-4) = 0 by decide), if_pos (show (-4 : Int) = -4 from rfl)]
    exact st_far4 hq
  · rw [e, if_neg (show ¬ (-6 : Int) = 0 by decide), if_neg (show ¬ zI (-6) = 0 by decide), if_neg (show ¬ (-6 : Int) = -4 by decide), if_pos (show (-6 : Int) = -6 from rfl)]
    exact st_far6 hq
  · rw [e, if_neg (show ¬ (-3 : Int) = 0 by decide), if_neg (show ¬ zI (-3) = 0 by decide), if_neg (show ¬ (-3 : Int) = -4 by decide), if_neg (show ¬ (-3 : Int) = -6 by decide), if_pos (show (-3 : Int) = -3 from rfl)]
    exact st_far3 hq
  · obtain ⟨w1, w2, w3, w4⟩ := gwhy_0 e
    rw [e, if_pos rfl, if_neg (by decide : ¬ (0 : Int) = -4), if_neg (by decide : ¬ (0 : Int) = -6), if_neg (by decide : ¬ (0 : Int) = -3), hn, e_misDir hm w1 w2, Option.bind_some]
    by_cases hdr : an (fun s => decide (gz_t A B a b s = 0)) n = true
    · rw [if_pos hdr, if_pos hdr, if_neg (show ¬ zI (-3) = 0 by decide), if_neg (show ¬ zI 1 = 0 by decide)]
      exact st_far3 hq
    · rw [if_neg hdr, if_neg hdr, if_pos (show zI 0 = 0 from rfl), if_pos (show zI 0 = 0 from rfl), e_qWithPlots hc hp, Option.bind_some]
      obtain ⟨r1, k1, k2⟩ := e_spare hc hp w1 w2
      obtain ⟨r2, k3, t, k4, k5⟩ := e_mspareL h6 hok w4 (an_dir hdr) w1 w2 hm hn hpm
      rw [k1, k3, Option.bind_some, Option.bind_some, k5]
      refine ⟨_, sc, t, ?_, rfl, RR_S hq hn (by omega) k4⟩
      rw [← k2]
      rcases r1 with r1 | r1
      · rfl
      · rfl
end
section
/-! most -/
theorem ex_p {A B C : Nat → Int} {n i j : Nat} {p q r : Int} (hi : i < n) (hj : j < n) : gz_p (ex A n p) (ex B n q) (ex C n r) i j n = p * gz_X A B C (A i) (B i) (C i) j + q * gz_Y A B C (A i) (B i) (C i) j - r * gz_W A B (A i) (B i) j := by
  unfold gz_p gz_e
  rw [ex_hn]
  unfold gz_X gz_Y gz_W gz_t
  rw [ex_o p hi, ex_o q hi, ex_o r hi, ex_o p hj, ex_o q hj, ex_o r hj]
theorem ex_on {A B C : Nat → Int} {n i j : Nat} {p q r : Int} (hi : i < n) (hj : j < n) : gz_p (ex A n p) (ex B n q) (ex C n r) i j n = 0 ↔ gp_on A B C p q r (i, j) = true := by
  rw [ex_p hi hj]
  unfold gp_on
  rw [decide_eq_true_eq]
  dsimp only
  omega
def yf_o (A B C : Nat → Int) (p q r : Int) (i j : Nat) : Nat := if gp_f A B C i j = true then (if gp_on A B C p q r (i, j) = true then 1 else 0) else 0
theorem fS_o (A B C : Nat → Int) (p q r : Int) (n : Nat) : fS (yf_o A B C p q r) n 0 = ls_sm (fun x => if gp_on A B C p q r x = true then 1 else 0) (gp_ls A B C n n) := by
  rw [ls_sm_pr, ← fS_pr]; rfl
def mo (A B C : Nat → Int) (n : Nat) (p q : Int) (i : Nat) : Nat := ls_sm (fun x => if gp_on A B C p q ((i : Int) - 99) x = true then 1 else 0) (gp_ls A B C n n)
theorem mo_le (A B C : Nat → Int) {n : Nat} (h6 : n ≤ 6) (p q : Int) (i : Nat) : mo A B C n p q i ≤ 15 := Nat.le_trans (ls_sm_le _ _) (gp_ls_15 A B C h6)
theorem mx_if {f : Nat → Nat} {i : Nat} (h : ∀ k, f k ≤ 15) : (if zI ((fb_mx f i : Nat) : Int) < zI ((f i : Nat) : Int) then zI ((f i : Nat) : Int) else zI ((fb_mx f i : Nat) : Int)) = zI ((fb_mx f (i + 1) : Nat) : Int) := by
  have h1 := h i
  have h2 : fb_mx f i ≤ 15 := fb_mx_le.mpr (fun k _ => h k)
  rw [fb_mx_suc]
  by_cases hc : fb_mx f i < f i
  · rw [if_pos (by rw [zI_lt (zB_n (by omega)) (zB_n (by omega))]; omega), if_pos hc]
  · rw [if_neg (by rw [zI_lt (zB_n (by omega)) (zB_n (by omega))]; omega), if_neg hc]
theorem e_mostL {sc : XS} {n : Nat} {A B C : Nat → Int} (hc : cL sc n A B C) (hP : gP A B C n sc (gp_ls A B C n n)) {a b : Int} (ha : ab 9 a) (hb : ab 9 b) : xo_lp (fun q : (Int32 × Int32) => F_All_most_b25 (zI a) (zI b) sc q.1 q.2) 1000000 ((0 : Int32), (-99 : Int32)) = some (zI ((fb_mx (mo A B C n a b) 199 : Nat) : Int)) := by
  have h6 := hc.2.1
  refine lp_run (fun i => (zI ((fb_mx (mo A B C n a b) i : Nat) : Int), ix 99 i)) 199 1000000 (by omega) (fun i hi => ?_) ?_
  · unfold F_All_most_b25
    dsimp only
    have e1 : F_Pla_pointsOn (zI a) (zI b) (ix 99 i) sc = some (zI ((mo A B C n a b i : Nat) : Int)) := e_pointsOn hc hP ha hb (ix_ab hi)
    rw [if_neg (fun z => by have := (ix_gt (by omega)).mp z; omega), e1, Option.bind_some, xo_nm_b, xo_nm_b, ix_suc, mx_if (mo_le A B C h6 a b)]
  · unfold F_All_most_b25
    dsimp only
    rw [if_pos ((ix_gt (by omega)).mpr (by omega))]
theorem e_mmany {t : XS} {n : Nat} {A B C : Nat → Int} {p q r : Int} (h6 : n ≤ 6) (hm : mL t n A B C) (hm2 : mL t (n + 1) (ex A n p) (ex B n q) (ex C n r)) (hn : t.1 0 0 = zI (n : Int)) (x1 x2 x3 x4 : Int32) : xo_lp (fun q : (Int32 × Int32) => F_Mod_most_b93 x1 x2 x3 x4 t q.1 q.2) 1000000 ((0 : Int32), (0 : Int32)) = some (zI ((fS (yf_o A B C p q r) n 0 : Nat) : Int)) := by
  refine lp_run (fun j => (zI ((fS (yf_o A B C p q r) j 0 : Nat) : Int), zI (j : Int))) n 1000000 (by omega) (fun j hj => ?_) ?_
  · unfold F_Mod_most_b93
    dsimp only
    rw [hn, if_neg (zI_ge1 (by omega) hj)]
    rw [lp_go (fun i => (zI ((fS (yf_o A B C p q r) j i : Nat) : Int), zI (i : Int))) j (zI ((fS (yf_o A B C p q r) j j : Nat) : Int)) (by rfl) (by omega) (fun i hi => ?_) ?_]
    · rw [xo_nm_b, zI_suc, fS_j]
    · unfold F_Mod_most_b105
      dsimp only
      rw [if_pos (zI_rfl _)]
    · unfold F_Mod_most_b105
      dsimp only
      rw [if_neg (zI_ge1 (by omega) hi), e_misFirst hm hi hj, Option.bind_some, hn, e_msoc hm2 (show n < n + 1 by omega) (show i < n + 1 by omega) (show j < n + 1 by omega), Option.bind_some, fS_i]
      simp only [xo_nm_b, zI_suc]
      by_cases hf : gp_f A B C i j = true
      · have ey : yf_o A B C p q r i j = if gp_on A B C p q r (i, j) = true then 1 else 0 := if_pos hf
        have ho := ex_on (A := A) (B := B) (C := C) (p := p) (q := q) (r := r) (show i < n by omega) hj
        rw [ey, if_pos hf, if_neg (by decide)]
        by_cases hg : gp_on A B C p q r (i, j) = true
        · rw [if_pos hg, if_pos (sg3_z.mpr (ho.mpr hg))]
        · rw [if_neg hg, if_neg (fun z => hg (ho.mp (sg3_z.mp z)))]; rfl
      · have ey : yf_o A B C p q r i j = 0 := if_neg hf
        rw [ey, if_neg hf, if_pos (show zI 0 = 0 from rfl)]; rfl
  · unfold F_Mod_most_b93
    dsimp only
    rw [hn, if_pos (zI_rfl _)]
theorem e_mmostL {sm : XS} {n : Nat} {A B C : Nat → Int} {a b : Int} (h6 : n ≤ 6) (ha : ab 9 a) (hb : ab 9 b) (hm : mL sm n A B C) (hn : sm.1 0 0 = zI (n : Int)) : ∃ r, xo_lp (fun q : (Int32 × Int32 × XS) => F_Mod_most_b72 (zI a) (zI b) q.1 q.2.1 q.2.2) 1000000 ((0 : Int32), (-99 : Int32), sm) = some r ∧ r.1 = zI ((fb_mx (mo A B C n a b) 199 : Nat) : Int) ∧ mS n sm r.2 := by
  refine lp_inv (fun (i : Nat) (x : Int32 × Int32 × XS) => x.1 = zI ((fb_mx (mo A B C n a b) i : Nat) : Int) ∧ x.2.1 = ix 99 i ∧ mS n sm x.2.2) _ 199 1000000 _ (by omega) ⟨rfl, rfl, mS_rfl n sm⟩ ?_ ?_
  · rintro i ⟨x, y, t⟩ hi ⟨e1, e2, e3⟩
    dsimp only at e1 e2 e3 ⊢
    subst e1; subst e2
    unfold F_Mod_most_b72
    have hnt : t.1 0 0 = zI (n : Int) := (e3.2.1 0 (by omega)).trans hn
    obtain ⟨t1, g1, g2, g3⟩ := e_think h6 (mL_S hm e3) hnt ha hb (ix_ab hi)
    have g1' : F_Mod_think (zI a) (zI b) (ix 99 i) t = some t1 := g1
    have hS := mS_trans e3 g2
    have hmany := e_mmany h6 (mL_S hm hS) g3 ((hS.2.1 0 (by omega)).trans hn) (zI a) (zI b) (zI ((fb_mx (mo A B C n a b) i : Nat) : Int)) (ix 99 i)
    rw [fS_o] at hmany
    have e9 : ls_sm (fun x => if gp_on A B C a b ((i : Int) - 99) x = true then 1 else 0) (gp_ls A B C n n) = mo A B C n a b i := rfl
    rw [e9] at hmany
    rw [if_neg (fun z => by have := (ix_ge (by omega)).mp z; omega), g1', Option.bind_some, hmany, Option.bind_some, xo_nm_b, xo_nm_b, ix_suc, mx_if (mo_le A B C h6 a b)]
    exact ⟨_, rfl, rfl, rfl, hS⟩
  · rintro ⟨x, y, t⟩ ⟨e1, e2, e3⟩
    dsimp only at e1 e2 e3 ⊢
    subst e1; subst e2
    unfold F_Mod_most_b72
    rw [if_pos ((ix_ge (by omega)).mpr (by omega))]
    exact ⟨_, rfl, rfl, e3⟩
theorem s_most (sc sm : XS) (x1 x2 : Int32) (h : xz_RR sc sm) : ∃ (r : Int32) (sc2 sm2 : XS), F_All_most x1 x2 sc = some (r, sc2) ∧ F_Mod_most x1 x2 sm = some (r, sm2) ∧ xz_RR sc2 sm2 := by
  obtain ⟨a, ha, rfl⟩ := zI_of x1
  obtain ⟨b, hb, rfl⟩ := zI_of x2
  have hq := h
  obtain ⟨⟨n, A, B, C, Kd, P, X, Y, hc, hok, hpl, hkd, hp, hn, hm, hpm⟩, h2, h3, h4, h5⟩ := h
  have h6 := hc.2.1
  have hw : F_All_whyNoNewLine (zI a) (zI b) (0 : Int32) sc = some (zI (if gwhy a b 0 = 0 then (if an (fun s => decide (gz_t A B a b s = 0)) n = true then -3 else 0) else gwhy a b 0)) := e_whyNew (c := 0) hc ha hb (by decide)
  rw [e_mmost ha hb]
  unfold F_All_most F_Mod_most_m12 F_Mod_most_m31 F_Mod_most_m46 F_Mod_most_m59
  rw [hw, Option.bind_some]
  rcases gwhy_or a b 0 with e | e | e | e
  · rw [e, if_neg (show ¬ (-4 : Int) = 0 by decide), if_neg (show ¬ zI (-4) = 0 by decide), if_pos (show (-4 : Int) = -4 from rfl)]
    exact st_no4 hq
  · rw [e, if_neg (show ¬ (-6 : Int) = 0 by decide), if_neg (show ¬ zI (-6) = 0 by decide), if_neg (show ¬ (-6 : Int) = -4 by decide), if_pos (show (-6 : Int) = -6 from rfl)]
    exact st_no6 hq
  · rw [e, if_neg (show ¬ (-3 : Int) = 0 by decide), if_neg (show ¬ zI (-3) = 0 by decide), if_neg (show ¬ (-3 : Int) = -4 by decide), if_neg (show ¬ (-3 : Int) = -6 by decide), if_pos (show (-3 : Int) = -3 from rfl)]
    exact st_no3 hq
  · obtain ⟨w1, w2, w3, w4⟩ := gwhy_0 e
    rw [e, if_pos rfl, if_neg (by decide : ¬ (0 : Int) = -4), if_neg (by decide : ¬ (0 : Int) = -6), if_neg (by decide : ¬ (0 : Int) = -3), hn, e_misDir hm w1 w2, Option.bind_some]
    by_cases hdr : an (fun s => decide (gz_t A B a b s = 0)) n = true
    · rw [if_pos hdr, if_pos hdr, if_neg (show ¬ zI (-3) = 0 by decide), if_neg (show ¬ zI 1 = 0 by decide)]
      exact st_no3 hq
    · rw [if_neg hdr, if_neg hdr, if_pos (show zI 0 = 0 from rfl), if_pos (show zI 0 = 0 from rfl)]
      obtain ⟨⟨v, t⟩, k3, k4, k5⟩ := e_mmostL (a := a) (b := b) h6 w1 w2 hm hn
      dsimp only at k4 k5
      rw [e_mostL hc hpl.1 w1 w2, k3, Option.bind_some, Option.bind_some, k4]
      exact ⟨_, sc, t, rfl, rfl, RR_S hq hn (by omega) k5⟩
end
section
/-! fear -/
def fv (A B : Nat → Int) (n : Nat) (a b : Int) : Bool := !(decide (a = 0 ∧ b = 0)) && !(an (fun s => decide (gz_t A B a b s = 0)) n)
def fl (A B : Nat → Int) (n : Nat) (a : Int) (j : Nat) : Nat := if fv A B n a ((j : Int) - 2) = true then 19 else 0
def fd (A B C : Nat → Int) (n m : Nat) (a b : Int) (i : Nat) : Bool := gc_K A B C a b ((i : Int) - 9) n n m
def fk (A B C : Nat → Int) (n : Nat) (w : Bool) (m : Nat) (a : Int) (j : Nat) : Nat := if fv A B n a ((j : Int) - 2) = true then (if w then 0 else fb_ct (fd A B C n m a ((j : Int) - 2)) 19) else 0
theorem ix9_gt {i : Nat} (h : i ≤ 1000) : (9 : Int32) < ix 9 i ↔ 19 ≤ i := by
  unfold ix
  rw [show (9 : Int32) = zI 9 from rfl, zI_lt (by decide) (ix_B (by omega) (by omega) h)]; omega
theorem ix9_ge {i : Nat} (h : i ≤ 1000) : (10 : Int32) ≤ ix 9 i ↔ 19 ≤ i := by
  unfold ix
  rw [show (10 : Int32) = zI 10 from rfl, zI_le (by decide) (ix_B (by omega) (by omega) h)]; omega
theorem ix2_gt {i : Nat} (h : i ≤ 1000) : (2 : Int32) < ix 2 i ↔ 5 ≤ i := by
  unfold ix
  rw [show (2 : Int32) = zI 2 from rfl, zI_lt (by decide) (ix_B (by omega) (by omega) h)]; omega
theorem ix2_ge {i : Nat} (h : i ≤ 1000) : (3 : Int32) ≤ ix 2 i ↔ 5 ≤ i := by
  unfold ix
  rw [show (3 : Int32) = zI 3 from rfl, zI_le (by decide) (ix_B (by omega) (by omega) h)]; omega
theorem ix9_ab {i : Nat} (h : i < 19) : ab 99 ((i : Int) - 9) := by unfold ab; omega
theorem e_feared {sc : XS} {n m : Nat} {A B C : Nat → Int} (hc : cL sc n A B C) {a b : Int} (ha : ab 9 a) (hb : ab 9 b) (hm : m < 64) : F_All_fearedLines (zI a) (zI b) (zI (m : Int)) sc = some (zI ((fb_ct (fd A B C n m a b) 19 : Nat) : Int)) := by
  unfold F_All_fearedLines
  refine (lp_go (fun i => (zI ((fb_ct (fd A B C n m a b) i : Nat) : Int), ix 9 i)) 19 (zI ((fb_ct (fd A B C n m a b) 19 : Nat) : Int)) (by rfl) (by omega) (fun i hi => ?_) ?_).trans rfl
  · unfold F_All_fearedLines_b7
    dsimp only
    have e2 : F_Pla_cutBy (zI a) (zI b) (ix 9 i) sc = some (lS (gc_K A B C a b ((i : Int) - 9) n n)) := e_cut hc ha hb (ix9_ab hi)
    rw [if_neg (fun z => by have := (ix9_gt (by omega)).mp z; omega), e2, Option.bind_some, e_hasN _ hm, Option.bind_some, fb_ct_succ]
    simp only [xo_nm_b, zI_suc, ix_suc]
    have e3 : fd A B C n m a b i = gc_K A B C a b ((i : Int) - 9) n n m := rfl
    rw [e3]
    by_cases hk : gc_K A B C a b ((i : Int) - 9) n n m = true
    · rw [if_pos hk, if_neg (by decide), if_pos hk]
    · rw [if_neg hk, if_pos (show zI 0 = 0 from rfl), if_neg hk]; rfl
  · unfold F_All_fearedLines_b7
    dsimp only
    rw [if_pos ((ix9_gt (by omega)).mpr (by omega))]
theorem ab9_i {i : Nat} (h : i < 3) : ab 9 (i : Int) := by unfold ab; omega
theorem ab9_j {j : Nat} (h : j < 5) : ab 9 ((j : Int) - 2) := by unfold ab; omega
theorem gwhy_f {i j : Nat} (hi : i < 3) (hj : j < 5) : gwhy (i : Int) ((j : Int) - 2) 0 = if (i : Int) = 0 ∧ (j : Int) - 2 = 0 then -3 else 0 := by
  unfold gwhy
  rw [if_neg (by omega), if_neg (by omega)]
theorem e_whyF {sc : XS} {n : Nat} {A B C : Nat → Int} (hc : cL sc n A B C) {i j : Nat} (hi : i < 3) (hj : j < 5) : ∃ v : Int32, F_All_whyNoNewLine (zI (i : Int)) (ix 2 j) (0 : Int32) sc = some v ∧ (v = 0 ↔ fv A B n (i : Int) ((j : Int) - 2) = true) := by
  have hw : F_All_whyNoNewLine (zI (i : Int)) (ix 2 j) (0 : Int32) sc = some (zI (if gwhy (i : Int) ((j : Int) - 2) 0 = 0 then (if an (fun s => decide (gz_t A B (i : Int) ((j : Int) - 2) s = 0)) n = true then -3 else 0) else gwhy (i : Int) ((j : Int) - 2) 0)) := e_whyNew (c := 0) hc (zB_n (by omega)) (ix_B (by omega) (by omega) (by omega)) (by decide)
  refine ⟨_, hw, ?_⟩
  rw [gwhy_f hi hj]
  unfold fv
  by_cases h0 : (i : Int) = 0 ∧ (j : Int) - 2 = 0
  · rw [if_pos h0, if_neg (by decide), decide_eq_true h0]
    exact ⟨fun z => absurd z (by decide), fun z => by cases z⟩
  · rw [if_neg h0, if_pos rfl, decide_eq_false h0]
    by_cases hd : an (fun s => decide (gz_t A B (i : Int) ((j : Int) - 2) s = 0)) n = true
    · rw [if_pos hd, hd]
      exact ⟨fun z => absurd z (by decide), fun z => by cases z⟩
    · rw [if_neg hd]
      have : an (fun s => decide (gz_t A B (i : Int) ((j : Int) - 2) s = 0)) n = false := by simpa using hd
      rw [this]
      exact ⟨fun _ => rfl, fun _ => rfl⟩
theorem e_fearRow {sc : XS} {n m : Nat} {A B C : Nat → Int} (hc : cL sc n A B C) (w : Bool) {x3 : Int32} (hx3 : w = false → m < 64 ∧ x3 = zI (m : Int)) {i : Nat} (hi : i < 3) (L K : Nat) : xo_lp (fun q : (Int32 × Int32 × Int32) => F_All_fear_b74 (zI (if w then 1 else 0)) x3 (zI (i : Int)) sc q.1 q.2.1 q.2.2) 1000000 (zI (L : Int), zI (K : Int), (-2 : Int32)) = some (zI ((L + fb_sm (fl A B n (i : Int)) 5 : Nat) : Int), zI ((K + fb_sm (fk A B C n w m (i : Int)) 5 : Nat) : Int)) := by
  refine lp_run (fun j => (zI ((L + fb_sm (fl A B n (i : Int)) j : Nat) : Int), zI ((K + fb_sm (fk A B C n w m (i : Int)) j : Nat) : Int), ix 2 j)) 5 1000000 (by omega) (fun j hj => ?_) ?_
  · unfold F_All_fear_b74
    dsimp only
    obtain ⟨v, e1, e2⟩ := e_whyF hc hi hj
    rw [if_neg (fun z => by have := (ix2_gt (by omega)).mp z; omega), e1, Option.bind_some, fb_sm_succ, fb_sm_succ]
    simp only [xo_nm_b, ix_suc]
    by_cases hv : fv A B n (i : Int) ((j : Int) - 2) = true
    · have el : fl A B n (i : Int) j = 19 := if_pos hv
      have ek : fk A B C n w m (i : Int) j = if w then 0 else fb_ct (fd A B C n m (i : Int) ((j : Int) - 2)) 19 := if_pos hv
      have e19 : (19 : Int32) = zI ((19 : Nat) : Int) := rfl
      rw [if_pos (e2.mpr hv), el, ek, e19, zI_addn, Nat.add_assoc]
      cases w with
      | true =>
        rw [if_neg (show ¬ zI (if true = true then 1 else 0) = (0 : Int32) by decide), if_pos rfl]
        have e0 : (0 : Int32) = zI ((0 : Nat) : Int) := rfl
        rw [e0, zI_addn]; rfl
      | false =>
        obtain ⟨hm, rfl⟩ := hx3 rfl
        have ef : F_All_fearedLines (zI (i : Int)) (ix 2 j) (zI (m : Int)) sc = some (zI ((fb_ct (fd A B C n m (i : Int) ((j : Int) - 2)) 19 : Nat) : Int)) := e_feared hc (ab9_i hi) (ab9_j hj) hm
        rw [if_pos (show zI (if false = true then 1 else 0) = (0 : Int32) from rfl), ef, Option.bind_some, zI_addn, if_neg (by decide), Nat.add_assoc]
    · have el : fl A B n (i : Int) j = 0 := if_neg hv
      have ek : fk A B C n w m (i : Int) j = 0 := if_neg hv
      rw [if_neg (fun z => hv (e2.mp z)), el, ek]; rfl
  · unfold F_All_fear_b74
    dsimp only
    rw [if_pos ((ix2_gt (by omega)).mpr (by omega))]
def fL (A B : Nat → Int) (n i : Nat) : Nat := fb_sm (fun i => fb_sm (fl A B n (i : Int)) 5) i
def fK (A B C : Nat → Int) (n : Nat) (w : Bool) (m i : Nat) : Nat := fb_sm (fun i => fb_sm (fk A B C n w m (i : Int)) 5) i
theorem e_fearA {sc : XS} {n m : Nat} {A B C : Nat → Int} (hc : cL sc n A B C) (w : Bool) {x3 : Int32} (hx3 : w = false → m < 64 ∧ x3 = zI (m : Int)) : F_All_fear_m55 (zI (if w then 1 else 0)) x3 sc = some (zI ((if w then fL A B n 3 else fK A B C n w m 3 : Nat) : Int), sc) := by
  unfold F_All_fear_m55
  rw [lp_go (fun i => (zI ((fL A B n i : Nat) : Int), zI ((fK A B C n w m i : Nat) : Int), zI (i : Int))) 3 (zI ((fL A B n 3 : Nat) : Int), zI ((fK A B C n w m 3 : Nat) : Int)) (by rfl) (by omega) (fun i hi => ?_) ?_]
  · unfold xo_u2
    dsimp only
    cases w with
    | true => rw [if_neg (show ¬ zI (if true = true then 1 else 0) = (0 : Int32) by decide), if_pos rfl]
    | false => rw [if_pos (show zI (if false = true then 1 else 0) = (0 : Int32) from rfl), if_neg (by decide)]
  · unfold F_All_fear_b64
    dsimp only
    rw [if_pos (show (2 : Int32) < zI ((3 : Nat) : Int) by decide)]
  · unfold F_All_fear_b64
    dsimp only
    have h2 : ¬ (2 : Int32) < zI (i : Int) := by
      rw [show (2 : Int32) = zI 2 from rfl, zI_lt (by decide) (zB_n (by omega))]; omega
    rw [if_neg h2, e_fearRow hc w hx3 hi, Option.bind_some]
    unfold xo_u2
    dsimp only
    rw [xo_nm_b, zI_suc]; rfl
end
section
/-! fear, the reference's way -/
theorem e_mfear1 {sm : XS} {n m : Nat} {A B C : Nat → Int} {a b : Int} (h6 : n ≤ 6) (hok : gz_ok A B n) (hpq : a ≠ 0 ∨ b ≠ 0) (hne : ∀ t, t < n → gz_t A B a b t ≠ 0) (ha : ab 9 a) (hb : ab 9 b) (hm : mL sm n A B C) (hn : sm.1 0 0 = zI (n : Int)) (w : Bool) {x3 : Int32} (hx3 : w = false → m < 2 ^ n ∧ x3 = zI (m : Int)) (L K : Nat) : ∃ r, xo_lp (fun q : (Int32 × Int32 × Int32 × XS) => F_Mod_fear_b106 (zI (if w then 1 else 0)) x3 (zI a) (zI b) q.1 q.2.1 q.2.2.1 q.2.2.2) 1000000 (zI (L : Int), zI (K : Int), (-9 : Int32), sm) = some r ∧ r.1 = zI ((L + 19 : Nat) : Int) ∧ r.2.1 = zI ((K + (if w then 0 else fb_ct (fd A B C n m a b) 19) : Nat) : Int) ∧ mS n sm r.2.2 := by
  refine lp_inv (fun (i : Nat) (x : Int32 × Int32 × Int32 × XS) => x.1 = zI ((L + i : Nat) : Int) ∧ x.2.1 = zI ((K + (if w then 0 else fb_ct (fd A B C n m a b) i) : Nat) : Int) ∧ x.2.2.1 = ix 9 i ∧ mS n sm x.2.2.2) _ 19 1000000 _ (by omega) ⟨rfl, by cases w <;> rfl, rfl, mS_rfl n sm⟩ ?_ ?_
  · rintro i ⟨x, y, z, t⟩ hi ⟨e1, e2, e3, e4⟩
    dsimp only at e1 e2 e3 e4 ⊢
    subst e1; subst e2; subst e3
    unfold F_Mod_fear_b106
    rw [if_neg (fun z => by have := (ix9_ge (by omega)).mp z; omega), xo_nm_b, zI_suc]
    simp only [xo_nm_b, ix_suc]
    cases w with
    | true =>
      rw [if_pos (show zI (if true = true then 1 else 0) = (1 : Int32) from rfl)]
      exact ⟨_, rfl, rfl, rfl, rfl, e4⟩
    | false =>
      obtain ⟨hm2, rfl⟩ := hx3 rfl
      rw [if_neg (show ¬ zI (if false = true then 1 else 0) = (1 : Int32) by decide)]
      have hnt : t.1 0 0 = zI (n : Int) := (e4.2.1 0 (by omega)).trans hn
      obtain ⟨t1, t2, g1, g2, g3, g4⟩ := e_thlay h6 (mL_S hm e4) hnt ha hb (ix9_ab hi)
      have g1' : F_Mod_think (zI a) (zI b) (ix 9 i) t = some t1 := g1
      have hS := mS_trans e4 g3
      have e5 : fd A B C n m a b i = gc_K A B C a b ((i : Int) - 9) n n m := rfl
      rw [g1', Option.bind_some, g2, Option.bind_some, e_cuts h6 hok hpq hne ((hS.2.1 0 (by omega)).trans hn) g4 hm2, Option.bind_some, fb_ct_succ, e5]
      by_cases hk : gc_K A B C a b ((i : Int) - 9) n n m = true
      · rw [if_pos hk, if_neg (show ¬ zI 1 = (0 : Int32) by decide), if_pos hk]
        exact ⟨_, rfl, rfl, zI_suc _, rfl, hS⟩
      · rw [if_neg hk, if_pos (show zI 0 = (0 : Int32) from rfl), if_neg hk]
        exact ⟨_, rfl, rfl, rfl, rfl, hS⟩
  · rintro ⟨x, y, z, t⟩ ⟨e1, e2, e3, e4⟩
    dsimp only at e1 e2 e3 e4 ⊢
    subst e1; subst e2; subst e3
    unfold F_Mod_fear_b106
    rw [if_pos ((ix9_ge (by omega)).mpr (by omega))]
    exact ⟨_, rfl, rfl, rfl, e4⟩
theorem e_mfearC {sm : XS} {n m : Nat} {A B C : Nat → Int} (h6 : n ≤ 6) (hok : gz_ok A B n) (hm : mL sm n A B C) (hn : sm.1 0 0 = zI (n : Int)) (w : Bool) {x3 : Int32} (hx3 : w = false → m < 2 ^ n ∧ x3 = zI (m : Int)) {i j : Nat} (hi : i < 3) (hj : j < 5) (L K : Nat) : ∃ t, F_Mod_fear_b68 (zI (if w then 1 else 0)) x3 (zI (i : Int)) (zI (L : Int)) (zI (K : Int)) (ix 2 j) sm = some (.inl (zI ((L + fl A B n (i : Int) j : Nat) : Int), zI ((K + fk A B C n w m (i : Int) j : Nat) : Int), ix 2 (j + 1), t)) ∧ mS n sm t := by
  unfold F_Mod_fear_b68
  rw [if_neg (fun z => by have := (ix2_ge (by omega)).mp z; omega)]
  simp only [xo_nm_b, ix_suc]
  have k1 : zI (i : Int) = (0 : Int32) ↔ (i : Int) = 0 := zi_eq (zB_n (by omega)) (by decide) _ _ rfl rfl
  have k2 : ix 2 j = (0 : Int32) ↔ (j : Int) - 2 = 0 := zi_eq (ix_B (by omega) (by omega) (by omega)) (by decide) _ _ rfl rfl
  simp only [k1, k2]
  have hskip : fv A B n (i : Int) ((j : Int) - 2) = false → fl A B n (i : Int) j = 0 ∧ fk A B C n w m (i : Int) j = 0 := fun h => by
    unfold fl fk
    rw [h]
    exact ⟨rfl, rfl⟩
  have main : ¬ ((i : Int) = 0 ∧ (j : Int) - 2 = 0) → ∃ t, F_Mod_fear_m84 (zI (if w then 1 else 0)) x3 (zI (L : Int)) (zI (K : Int)) (zI (i : Int)) (ix 2 j) sm = some (.inl (zI ((L + fl A B n (i : Int) j : Nat) : Int), zI ((K + fk A B C n w m (i : Int) j : Nat) : Int), ix 2 (j + 1), t)) ∧ mS n sm t := by
    intro hpq
    unfold F_Mod_fear_m84
    simp only [xo_nm_b, ix_suc]
    have hd : F_Mod_isDirection (zI (i : Int)) (ix 2 j) (zI (n : Int)) sm = some (zI (if an (fun s => decide (gz_t A B (i : Int) ((j : Int) - 2) s = 0)) n = true then 1 else 0)) := e_misDir hm (ab9_i hi) (ab9_j hj)
    rw [hn, hd, Option.bind_some]
    by_cases hdr : an (fun s => decide (gz_t A B (i : Int) ((j : Int) - 2) s = 0)) n = true
    · rw [if_pos hdr, if_neg (by decide)]
      obtain ⟨s1, s2⟩ := hskip (by unfold fv; rw [hdr, Bool.not_true, Bool.and_false])
      rw [s1, s2]
      exact ⟨sm, rfl, mS_rfl n sm⟩
    · have hdr' : an (fun s => decide (gz_t A B (i : Int) ((j : Int) - 2) s = 0)) n = false := by simpa using hdr
      have hv : fv A B n (i : Int) ((j : Int) - 2) = true := by
        unfold fv
        rw [hdr', decide_eq_false hpq]; rfl
      have el : fl A B n (i : Int) j = 19 := if_pos hv
      have ek : fk A B C n w m (i : Int) j = if w then 0 else fb_ct (fd A B C n m (i : Int) ((j : Int) - 2)) 19 := if_pos hv
      rw [if_neg hdr, if_pos (show zI 0 = (0 : Int32) from rfl), el, ek]
      obtain ⟨⟨r1, r2, r3⟩, g1, g2, g3, g4⟩ := e_mfear1 (a := (i : Int)) (b := (j : Int) - 2) (A := A) (B := B) (C := C) h6 hok (by omega) (an_dir hdr) (ab9_i hi) (ab9_j hj) hm hn w hx3 L K
      have g1' : xo_lp (fun q : (Int32 × Int32 × Int32 × XS) => F_Mod_fear_b106 (zI (if w then 1 else 0)) x3 (zI (i : Int)) (ix 2 j) q.1 q.2.1 q.2.2.1 q.2.2.2) 1000000 (zI (L : Int), zI (K : Int), (-9 : Int32), sm) = some (r1, r2, r3) := g1
      dsimp only at g2 g3 g4
      rw [g1', Option.bind_some]
      unfold xo_u3
      dsimp only
      rw [g2, g3]
      exact ⟨r3, rfl, g4⟩
  by_cases c1 : (i : Int) = 0
  · rw [if_pos c1]
    by_cases c2 : (j : Int) - 2 = 0
    · rw [if_pos c2]
      obtain ⟨s1, s2⟩ := hskip (by unfold fv; rw [decide_eq_true ⟨c1, c2⟩]; rfl)
      rw [s1, s2]
      exact ⟨sm, rfl, mS_rfl n sm⟩
    · rw [if_neg c2]
      exact main (fun z => c2 z.2)
  · rw [if_neg c1]
    exact main (fun z => c1 z.1)
theorem e_mfearR {sm : XS} {n m : Nat} {A B C : Nat → Int} (h6 : n ≤ 6) (hok : gz_ok A B n) (hm : mL sm n A B C) (hn : sm.1 0 0 = zI (n : Int)) (w : Bool) {x3 : Int32} (hx3 : w = false → m < 2 ^ n ∧ x3 = zI (m : Int)) {i : Nat} (hi : i < 3) (L K : Nat) : ∃ r, xo_lp (fun q : (Int32 × Int32 × Int32 × XS) => F_Mod_fear_b68 (zI (if w then 1 else 0)) x3 (zI (i : Int)) q.1 q.2.1 q.2.2.1 q.2.2.2) 1000000 (zI (L : Int), zI (K : Int), (-2 : Int32), sm) = some r ∧ r.1 = zI ((L + fb_sm (fl A B n (i : Int)) 5 : Nat) : Int) ∧ r.2.1 = zI ((K + fb_sm (fk A B C n w m (i : Int)) 5 : Nat) : Int) ∧ mS n sm r.2.2 := by
  refine lp_inv (fun (j : Nat) (x : Int32 × Int32 × Int32 × XS) => x.1 = zI ((L + fb_sm (fl A B n (i : Int)) j : Nat) : Int) ∧ x.2.1 = zI ((K + fb_sm (fk A B C n w m (i : Int)) j : Nat) : Int) ∧ x.2.2.1 = ix 2 j ∧ mS n sm x.2.2.2) _ 5 1000000 _ (by omega) ⟨rfl, rfl, rfl, mS_rfl n sm⟩ ?_ ?_
  · rintro j ⟨x, y, z, t⟩ hj ⟨e1, e2, e3, e4⟩
    dsimp only at e1 e2 e3 e4 ⊢
    subst e1; subst e2; subst e3
    obtain ⟨t2, g1, g2⟩ := e_mfearC (C := C) h6 hok (mL_S hm e4) ((e4.2.1 0 (by omega)).trans hn) w hx3 hi hj (L + fb_sm (fl A B n (i : Int)) j) (K + fb_sm (fk A B C n w m (i : Int)) j)
    rw [g1]
    refine ⟨_, rfl, ?_, ?_, rfl, mS_trans e4 g2⟩
    · rw [fb_sm_succ, ← Nat.add_assoc]
    · rw [fb_sm_succ, ← Nat.add_assoc]
  · rintro ⟨x, y, z, t⟩ ⟨e1, e2, e3, e4⟩
    dsimp only at e1 e2 e3 e4 ⊢
    subst e1; subst e2; subst e3
    unfold F_Mod_fear_b68
    rw [if_pos ((ix2_ge (by omega)).mpr (by omega))]
    exact ⟨_, rfl, rfl, rfl, e4⟩
theorem e_mfearA {sm : XS} {n m : Nat} {A B C : Nat → Int} (h6 : n ≤ 6) (hok : gz_ok A B n) (hm : mL sm n A B C) (hn : sm.1 0 0 = zI (n : Int)) (w : Bool) {x3 : Int32} (hx3 : w = false → m < 2 ^ n ∧ x3 = zI (m : Int)) : ∃ t, F_Mod_fear_m49 (zI (if w then 1 else 0)) x3 sm = some (zI ((if w then fL A B n 3 else fK A B C n w m 3 : Nat) : Int), t) ∧ mS n sm t := by
  unfold F_Mod_fear_m49
  have hl : ∃ r, xo_lp (fun q : (Int32 × Int32 × Int32 × XS) => F_Mod_fear_b58 (zI (if w then 1 else 0)) x3 q.1 q.2.1 q.2.2.1 q.2.2.2) 1000000 ((0 : Int32), (0 : Int32), (0 : Int32), sm) = some r ∧ r.1 = zI ((fL A B n 3 : Nat) : Int) ∧ r.2.1 = zI ((fK A B C n w m 3 : Nat) : Int) ∧ mS n sm r.2.2 := by
    refine lp_inv (fun (i : Nat) (x : Int32 × Int32 × Int32 × XS) => x.1 = zI ((fL A B n i : Nat) : Int) ∧ x.2.1 = zI ((fK A B C n w m i : Nat) : Int) ∧ x.2.2.1 = zI (i : Int) ∧ mS n sm x.2.2.2) _ 3 1000000 _ (by omega) ⟨rfl, rfl, rfl, mS_rfl n sm⟩ ?_ ?_
    · rintro i ⟨x, y, z, t⟩ hi ⟨e1, e2, e3, e4⟩
      dsimp only at e1 e2 e3 e4 ⊢
      subst e1; subst e2; subst e3
      unfold F_Mod_fear_b58
      obtain ⟨⟨r1, r2, r3⟩, g1, g2, g3, g4⟩ := e_mfearR (C := C) h6 hok (mL_S hm e4) ((e4.2.1 0 (by omega)).trans hn) w hx3 hi (fL A B n i) (fK A B C n w m i)
      dsimp only at g2 g3 g4
      rw [show (3 : Int32) = zI ((3 : Nat) : Int) from rfl, if_neg (zI_ge1 (by omega) hi), g1, Option.bind_some]
      unfold xo_u3
      dsimp only
      rw [xo_nm_b, zI_suc]
      exact ⟨_, rfl, g2, g3, rfl, mS_trans e4 g4⟩
    · rintro ⟨x, y, z, t⟩ ⟨e1, e2, e3, e4⟩
      dsimp only at e1 e2 e3 e4 ⊢
      subst e1; subst e2; subst e3
      unfold F_Mod_fear_b58
      rw [if_pos (show (3 : Int32) ≤ zI ((3 : Nat) : Int) by decide)]
      exact ⟨_, rfl, rfl, rfl, e4⟩
  obtain ⟨⟨r1, r2, r3⟩, g1, g2, g3, g4⟩ := hl
  dsimp only at g2 g3 g4
  rw [g1, Option.bind_some]
  unfold xo_u3
  dsimp only
  rw [g2, g3]
  refine ⟨r3, ?_, g4⟩
  cases w with
  | true => rw [if_neg (show ¬ zI (if true = true then 1 else 0) = (0 : Int32) by decide), if_pos rfl]
  | false => rw [if_pos (show zI (if false = true then 1 else 0) = (0 : Int32) from rfl), if_neg (by decide)]
theorem s_fear (sc sm : XS) (x1 x2 : Int32) (h : xz_RR sc sm) : ∃ (r : Int32) (sc2 sm2 : XS), F_All_fear x1 x2 sc = some (r, sc2) ∧ F_Mod_fear x1 x2 sm = some (r, sm2) ∧ xz_RR sc2 sm2 := by
  obtain ⟨x, hx, rfl⟩ := zI_of x1
  obtain ⟨y, hy, rfl⟩ := zI_of x2
  have hq := h
  obtain ⟨⟨n, A, B, C, Kd, P, X, Y, hc, hok, hpl, hkd, hp, hn, hm, hpm⟩, h2, h3, h4, h5⟩ := h
  have h6 := hc.2.1
  unfold F_All_fear F_Mod_fear F_All_fear_m33
  have hw : F_Mod_within (zI y) (0 : Int32) (1 : Int32) = some (zI (if 0 ≤ y ∧ y ≤ 1 then 1 else 0)) := e_mwithin (a := 0) (b := 1) hy (by decide) (by decide)
  have k0 : zI y = (0 : Int32) ↔ y = 0 := zi_eq hy (by decide) _ _ rfl rfl
  have k1 : zI y = (1 : Int32) ↔ y = 1 := zi_eq hy (by decide) _ _ rfl rfl
  rw [e_hasPlot hp hx, e_misPlot hpm.1 hpm.2.1 hx, Option.bind_some, Option.bind_some, hw]
  simp only [k0, k1]
  by_cases c : 0 ≤ x ∧ x < (P : Int)
  · obtain ⟨p, rfl⟩ : ∃ p : Nat, x = p := ⟨x.toNat, by omega⟩
    rw [if_pos c, if_neg (show ¬ zI 1 = 0 by decide), if_neg (show ¬ zI 1 = 0 by decide), Option.bind_some]
    rw [e_qPlot hc hp (show p < P by omega), e_mwhere hm hn hpm (show p < P by omega)]
    simp only [Option.bind_some]
    by_cases c0 : y = 0
    · subst c0
      rw [if_pos rfl, if_pos rfl, if_pos (show (0 : Int) ≤ 0 ∧ (0 : Int) ≤ 1 by omega), if_neg (show ¬ zI 1 = 0 by decide), if_pos rfl]
      by_cases hz : gw_z A B C n (X p) (Y p) = true
      · have e9 := (gw_9 (A := A) (B := B) (C := C) h6 _ _).mpr hz
        rw [if_pos e9, if_pos e9]
        exact ⟨_, _, _, rfl, rfl, hq⟩
      · have e9 : ¬ zI (gw A B C n (X p) (Y p)) = (-9 : Int32) := fun z => hz ((gw_9 h6 _ _).mp z)
        rw [if_neg e9, if_neg e9, gw_n hz]
        have hb := gw_b_pw A B C n (X p) (Y p)
        have h64 := p2_64 h6
        have g1 := e_fearA (A := A) (B := B) (C := C) hc false (m := gw_b A B C n (X p) (Y p)) (x3 := zI (gw_b A B C n (X p) (Y p) : Int)) (fun _ => ⟨by omega, rfl⟩)
        obtain ⟨t, g2, g3⟩ := e_mfearA (A := A) (B := B) (C := C) h6 hok hm hn false (m := gw_b A B C n (X p) (Y p)) (x3 := zI (gw_b A B C n (X p) (Y p) : Int)) (fun _ => ⟨hb, rfl⟩)
        exact ⟨_, _, _, g1, g2, RR_S hq hn (by omega) g3⟩
    · rw [if_neg c0, if_neg c0]
      by_cases c1 : y = 1
      · subst c1
        rw [if_pos rfl, if_pos (show (0 : Int) ≤ 1 ∧ (1 : Int) ≤ 1 by omega), if_neg (show ¬ zI 1 = 0 by decide), if_neg c0]
        have g1 := e_fearA (A := A) (B := B) (C := C) hc true (m := 0) (x3 := zI (gw A B C n (X p) (Y p))) (fun z => by cases z)
        obtain ⟨t, g2, g3⟩ := e_mfearA (A := A) (B := B) (C := C) h6 hok hm hn true (m := 0) (x3 := zI (gw A B C n (X p) (Y p))) (fun z => by cases z)
        exact ⟨_, _, _, g1, g2, RR_S hq hn (by omega) g3⟩
      · rw [if_neg c1, if_neg (show ¬ (0 ≤ y ∧ y ≤ 1) by omega), if_pos (show zI 0 = 0 from rfl)]
        exact st_no2 hq
  · rw [if_neg c, if_pos (show zI 0 = 0 from rfl), if_pos (show zI 0 = 0 from rfl)]
    exact st_no1 hq
end
section
/-! streets taken up -/
theorem fb_ct_out (p : Nat → Bool) (b : Bool) {i n : Nat} (h : n ≤ i) : fb_ct (fun k => if k = i then b else p k) n = fb_ct p n :=
  fb_ct_cong (fun k hk => if_neg (by omega))
theorem fb_ct_upd (p : Nat → Bool) (b : Bool) {i : Nat} : ∀ {n : Nat}, i < n → fb_ct (fun k => if k = i then b else p k) n + (if p i then 1 else 0) = fb_ct p n + (if b then 1 else 0)
  | 0, h => absurd h (Nat.not_lt_zero i)
  | n + 1, h => by
    rw [fb_ct_succ, fb_ct_succ]
    by_cases e : i = n
    · subst e
      rw [fb_ct_out p b (Nat.le_refl i), if_pos rfl]; omega
    · have := fb_ct_upd p b (i := i) (n := n) (by omega)
      have e2 : ¬ n = i := fun z => e z.symm
      rw [if_neg e2]; omega
theorem ct_inj {P : Nat → Bool} {f : Nat → Nat} {M : Nat} : ∀ {N : Nat} {Q : Nat → Bool}, (∀ k, k < N → P k = true → f k < M ∧ Q (f k) = true) → (∀ i j, i < N → j < N → P i = true → P j = true → f i = f j → i = j) → fb_ct P N ≤ fb_ct Q M
  | 0, _, _, _ => Nat.zero_le _
  | N + 1, Q, h, hi => by
    rw [fb_ct_succ]
    by_cases hP : P N = true
    · obtain ⟨h1, h2⟩ := h N (by omega) hP
      have hu := fb_ct_upd Q false h1
      have ih := ct_inj (P := P) (f := f) (M := M) (N := N) (Q := fun k => if k = f N then false else Q k) (fun k hk hpk => by
        obtain ⟨g1, g2⟩ := h k (by omega) hpk
        refine ⟨g1, ?_⟩
        have : f k ≠ f N := fun z => by have := hi k N (by omega) (by omega) hpk hP z; omega
        rw [if_neg this]; exact g2) (fun i j hi9 hj9 => hi i j (by omega) (by omega))
      rw [if_pos h2, if_neg (show ¬ (false = true) by decide)] at hu
      rw [if_pos hP]
      omega
    · rw [if_neg hP]
      have ih := ct_inj (P := P) (f := f) (M := M) (N := N) (Q := Q) (fun k hk => h k (by omega)) (fun i j hi9 hj9 => hi i j (by omega) (by omega))
      omega
/-- the lines without s: the last one stands in its place -/
def swf (n s t : Nat) : Nat := if t = s then n - 1 else t
def swg (n s u : Nat) : Nat := if u = n - 1 then s else u
def sw (A : Nat → Int) (n s : Nat) (t : Nat) : Int := A (swf n s t)
theorem swf_lt {n s t : Nat} (ht : t < n - 1) : swf n s t < n := by unfold swf; split <;> omega
theorem swf_ne {n s t : Nat} (ht : t < n - 1) : swf n s t ≠ s := by unfold swf; split <;> omega
theorem swf_inj {n s i j : Nat} (hi : i < n - 1) (hj : j < n - 1) (h : i ≠ j) : swf n s i ≠ swf n s j := by
  unfold swf; split <;> split <;> omega
theorem swg_lt {n s u : Nat} (hs : s < n) (hu : u < n) (h : u ≠ s) : swg n s u < n - 1 := by unfold swg; split <;> omega
theorem swf_g {n s u : Nat} (hs : s < n) (hu : u < n) (h : u ≠ s) : swf n s (swg n s u) = u := by
  unfold swf swg
  by_cases e : u = n - 1
  · rw [if_pos e, if_pos rfl]; exact e.symm
  · rw [if_neg e, if_neg h]
theorem swg_f {n s t : Nat} (hs : s < n) (ht : t < n - 1) : swg n s (swf n s t) = t := by
  unfold swf swg
  by_cases e : t = s
  · rw [if_pos e, if_pos rfl]; exact e.symm
  · rw [if_neg e, if_neg (by omega)]
theorem sw_h (A B C : Nat → Int) (n s t : Nat) (x y w : Int) : gz_h (sw A n s) (sw B n s) (sw C n s) t x y w = gz_h A B C (swf n s t) x y w := rfl
theorem sw_ok {A B : Nat → Int} {n s : Nat} (hok : gz_ok A B n) : gz_ok (sw A n s) (sw B n s) (n - 1) := by
  refine ⟨fun t ht => hok.1 _ (swf_lt ht), fun i j hi hj hij => ?_⟩
  exact hok.2 _ _ (swf_lt hi) (swf_lt hj) (swf_inj hi hj hij)
theorem sw_gB {A B C : Nat → Int} {n s : Nat} (h : gB A B C n) : gB (sw A n s) (sw B n s) (sw C n s) (n - 1) := fun t ht => h _ (swf_lt ht)
theorem gqW_iff {A B C : Nat → Int} {n s m : Nat} (h6 : n ≤ 6) (hok : gz_ok A B n) (hs : s < n) : gq_W (gq_Q A B C n n) s 64 m = true ↔ m < 2 ^ n ∧ m.testBit s = false ∧ gz_reg A B C n (fun t => t ≠ s) m := by
  unfold gq_W
  rw [an_iff]
  have h64 := p2_64 h6
  constructor
  · rintro ⟨q, hq, h⟩
    rw [Bool.and_eq_true, decide_eq_true_eq] at h
    obtain ⟨h1, rfl⟩ := h
    obtain ⟨h2, x, y, w, hw, h3⟩ := (gq_Q_iff h6 hok).mp h1
    refine ⟨?_, ?_, x, y, w, hw, fun t ht hts => ?_⟩
    · unfold gz_off
      split
      · exact Nat.xor_lt_two_pow h2 (Nat.pow_lt_pow_right (by decide) hs)
      · exact h2
    · rw [gz_off_bit]; simp
    · have hts : t ≠ s := hts
      rw [gz_off_bit, decide_eq_true hts, Bool.true_and]
      exact h3 t ht trivial
  · rintro ⟨h1, h2, h3⟩
    obtain ⟨q, g1, g2⟩ := gz_less hok hs h3
    have hq : q < 2 ^ n := by
      apply Nat.lt_pow_two_of_testBit
      intro i hi
      rw [g1 i (by omega)]
      exact Nat.testBit_lt_two_pow (Nat.lt_of_lt_of_le h1 (Nat.pow_le_pow_right (by decide) hi))
    refine ⟨q, by omega, ?_⟩
    rw [Bool.and_eq_true, decide_eq_true_eq]
    refine ⟨(gq_Q_iff h6 hok).mpr ⟨hq, g2⟩, ?_⟩
    apply Nat.eq_of_testBit_eq
    intro i
    rw [gz_off_bit]
    by_cases e : i = s
    · subst e; rw [h2]; simp
    · rw [g1 i e, decide_eq_true e, Bool.true_and]
theorem lt_bits {a b n : Nat} (ha : a < 2 ^ n) (hb : b < 2 ^ n) (h : ∀ t, t < n → a.testBit t = b.testBit t) : a = b := by
  apply Nat.eq_of_testBit_eq
  intro i
  by_cases hi : i < n
  · exact h i hi
  · rw [Nat.testBit_lt_two_pow (Nat.lt_of_lt_of_le ha (Nat.pow_le_pow_right (by decide) (by omega))), Nat.testBit_lt_two_pow (Nat.lt_of_lt_of_le hb (Nat.pow_le_pow_right (by decide) (by omega)))]
theorem sw_ct {A B C : Nat → Int} {n s : Nat} (h6 : n ≤ 6) (hok : gz_ok A B n) (hs : s < n) : fb_ct (gq_Q (sw A n s) (sw B n s) (sw C n s) (n - 1) (n - 1)) 64 = fb_ct (gq_W (gq_Q A B C n n) s 64) 64 := by
  have hok2 := sw_ok (s := s) hok
  have h64 := p2_64 h6
  have h64' := p2_64 (show n - 1 ≤ 6 by omega)
  have hQ : ∀ m, gq_Q (sw A n s) (sw B n s) (sw C n s) (n - 1) (n - 1) m = true ↔ m < 2 ^ (n - 1) ∧ gz_reg (sw A n s) (sw B n s) (sw C n s) (n - 1) (fun _ => True) m := fun m => gq_Q_iff (by omega) hok2
  have hW : ∀ m, gq_W (gq_Q A B C n n) s 64 m = true ↔ m < 2 ^ n ∧ m.testBit s = false ∧ gz_reg A B C n (fun t => t ≠ s) m := fun m => gqW_iff h6 hok hs
  apply Nat.le_antisymm
  · refine ct_inj (f := fun m => bm (fun u => decide (u ≠ s) && m.testBit (swg n s u)) n) (fun m hm hm2 => ?_) (fun m1 m2 _ _ hm1 hm2 e => ?_)
    · obtain ⟨g1, x, y, w, hw, g2⟩ := (hQ m).mp hm2
      have hlt : bm (fun u => decide (u ≠ s) && m.testBit (swg n s u)) n < 2 ^ n := bm_lt _ n
      refine ⟨by omega, (hW _).mpr ⟨hlt, ?_, x, y, w, hw, fun u hu hus => ?_⟩⟩
      · rw [bm_tb]; simp
      · have hus : u ≠ s := hus
        have h3 := g2 (swg n s u) (swg_lt hs hu hus) trivial
        rw [sw_h, swf_g hs hu hus] at h3
        rw [bm_tb, decide_eq_true hu, decide_eq_true hus, Bool.true_and, Bool.true_and]
        exact h3
    · obtain ⟨g1, -⟩ := (hQ m1).mp hm1
      obtain ⟨g2, -⟩ := (hQ m2).mp hm2
      refine lt_bits g1 g2 (fun t ht => ?_)
      have h3 := congrArg (fun z => z.testBit (swf n s t)) e
      rw [bm_tb, bm_tb, swg_f hs ht, decide_eq_true (swf_lt ht), decide_eq_true (swf_ne ht), Bool.true_and, Bool.true_and, Bool.true_and, Bool.true_and] at h3
      exact h3
  · refine ct_inj (f := fun m => bm (fun t => m.testBit (swf n s t)) (n - 1)) (fun m hm hm2 => ?_) (fun m1 m2 _ _ hm1 hm2 e => ?_)
    · obtain ⟨g1, g3, x, y, w, hw, g2⟩ := (hW m).mp hm2
      have hlt : bm (fun t => m.testBit (swf n s t)) (n - 1) < 2 ^ (n - 1) := bm_lt _ (n - 1)
      refine ⟨by omega, (hQ _).mpr ⟨hlt, x, y, w, hw, fun t ht _ => ?_⟩⟩
      have h3 := g2 (swf n s t) (swf_lt ht) (swf_ne ht)
      rw [sw_h, bm_tb, decide_eq_true ht, Bool.true_and]
      exact h3
    · obtain ⟨g1, k1, -⟩ := (hW m1).mp hm1
      obtain ⟨g2, k2, -⟩ := (hW m2).mp hm2
      refine lt_bits g1 g2 (fun u hu => ?_)
      by_cases hus : u = s
      · rw [hus, k1, k2]
      · have h3 := congrArg (fun z => z.testBit (swg n s u)) e
        rw [bm_tb, bm_tb, swf_g hs hu hus, decide_eq_true (swg_lt hs hu hus), Bool.true_and, Bool.true_and] at h3
        exact h3
end
section
/-! streets taken up: both alike -/
theorem e_mwithout {sm : XS} {n s : Nat} {A B C : Nat → Int} (h6 : n ≤ 6) (hok : gz_ok A B n) (hm : mL sm n A B C) (hn : sm.1 0 0 = zI (n : Int)) (hs : s < n) : ∃ t, F_Mod_without (zI (s : Int)) sm = some (zI ((fb_ct (gq_W (gq_Q A B C n n) s 64) 64 : Nat) : Int), t) ∧ mS n sm t := by
  obtain ⟨s1, s2, s3⟩ := hm.2.1 s hs
  obtain ⟨l1, l2, l3⟩ := hm.2.1 (n - 1) (by omega)
  have e1 : zI (n : Int) - (1 : Int32) = zI ((n - 1 : Nat) : Int) := zI_prd (by omega)
  unfold F_Mod_without
  rw [xo_rd_z (show s < 7 by omega) (by decide), Option.bind_some, xo_rd_z (show s < 7 by omega) (by decide), Option.bind_some, xo_rd_z (show s < 7 by omega) (by decide), Option.bind_some, xo_nm_b, hn, e1, xo_rd_z (show n - 1 < 7 by omega) (by decide), Option.bind_some, xo_ck_z (show s < 7 by omega) (by decide), Option.bind_some, xo_nm_b, zI_cl (by omega)]
  rw [xo_rd_z (show n - 1 < 7 by omega) (by decide), Option.bind_some, Option.bind_some, xo_nm_b, xo_rd_z (show n - 1 < 7 by omega) (by decide), Option.bind_some, Option.bind_some, xo_nm_b, s1, s2, s3, l1]
  have e3 : (xs_A sm 2 (upd (sm.1 2) s (zI (A (n - 1))))).1 3 = sm.1 3 := xs_A_n (by decide)
  have e4 : ∀ f g : Nat → Int32, (xs_A (xs_A sm 2 f) 3 g).1 4 = sm.1 4 := fun f g => by rw [xs_A_n (by decide), xs_A_n (by decide)]
  rw [e3, l2, e4, l3]
  generalize ht : xs_A (xs_A (xs_A sm 2 (upd (sm.1 2) s (zI (A (n - 1))))) 3 (upd (sm.1 3) s (zI (B (n - 1))))) 4 (upd (sm.1 4) s (zI (C (n - 1)))) = t
  have t2 : t.1 2 = upd (sm.1 2) s (zI (A (n - 1))) := by rw [← ht, xs_A_n (by decide), xs_A_n (by decide), xs_A_e]
  have t3 : t.1 3 = upd (sm.1 3) s (zI (B (n - 1))) := by rw [← ht, xs_A_n (by decide), xs_A_e]
  have t4 : t.1 4 = upd (sm.1 4) s (zI (C (n - 1))) := by rw [← ht, xs_A_e]
  have to : ∀ k, k ≠ 2 → k ≠ 3 → k ≠ 4 → t.1 k = sm.1 k := fun k h2 h3 h4 => by rw [← ht, xs_A_n h4, xs_A_n h3, xs_A_n h2]
  have hmt : mL t (n - 1) (sw A n s) (sw B n s) (sw C n s) := by
    refine ⟨by omega, fun u hu => ?_, sw_gB hm.2.2⟩
    rw [t2, t3, t4]
    unfold sw swf
    by_cases e : u = s
    · subst e
      rw [upd_e, upd_e, upd_e, if_pos rfl]
      exact ⟨rfl, rfl, rfl⟩
    · rw [upd_n e, upd_n e, upd_n e, if_neg e]
      exact hm.2.1 u (by omega)
  obtain ⟨u, g1, g2⟩ := e_layL hmt
  rw [g1, Option.bind_some, e_mhow (by omega) g2, Option.bind_some, how_Q (by omega) (sw_ok hok), sw_ct h6 hok hs]
  simp only [Option.bind_some, xo_nm_b]
  refine ⟨_, rfl, ?_⟩
  have uo : ∀ k, k ≠ 0 → k ≠ 18 → k ≠ 19 → u.1 k = t.1 k := g2.1.2.1
  have u0 : ∀ j, j < 20 → u.1 0 j = t.1 0 j := g2.1.2.2
  have hfin : ∀ f g h : Nat → Int32, ∀ k, k ≠ 2 → k ≠ 3 → k ≠ 4 → (xs_A (xs_A (xs_A u 2 f) 3 g) 4 h).1 k = u.1 k := fun f g h k h2 h3 h4 => by rw [xs_A_n h4, xs_A_n h3, xs_A_n h2]
  refine ⟨fun k hk => ?_, fun j hj => ?_, fun v hv => ?_⟩
  · rw [hfin _ _ _ k (by omega) (by omega) (by omega), uo k (by omega) (by omega) (by omega), to k (by omega) (by omega) (by omega)]
  · rw [hfin _ _ _ 0 (by omega) (by omega) (by omega), u0 j hj, to 0 (by omega) (by omega) (by omega)]
  · have f2 : ∀ f g h : Nat → Int32, (xs_A (xs_A (xs_A u 2 f) 3 g) 4 h).1 2 = f := fun f g h => by rw [xs_A_n (by decide), xs_A_n (by decide), xs_A_e]
    have f3 : ∀ f g h : Nat → Int32, (xs_A (xs_A (xs_A u 2 f) 3 g) 4 h).1 3 = g := fun f g h => by rw [xs_A_n (by decide), xs_A_e]
    have f4 : ∀ f g h : Nat → Int32, (xs_A (xs_A (xs_A u 2 f) 3 g) 4 h).1 4 = h := fun f g h => xs_A_e _ _ _
    have h3 : ∀ f : Nat → Int32, (xs_A u 2 f).1 3 = u.1 3 := fun f => xs_A_n (by decide)
    have h4 : ∀ f g : Nat → Int32, (xs_A (xs_A u 2 f) 3 g).1 4 = u.1 4 := fun f g => by rw [xs_A_n (by decide), xs_A_n (by decide)]
    rw [f2, f3, f4, h3, h4, uo 2 (by omega) (by omega) (by omega), uo 3 (by omega) (by omega) (by omega), uo 4 (by omega) (by omega) (by omega), t2, t3, t4]
    by_cases e : v = s
    · subst e
      rw [upd_e, upd_e, upd_e]
      exact ⟨s1.symm, s2.symm, s3.symm⟩
    · rw [upd_n e, upd_n e, upd_n e, upd_n e, upd_n e, upd_n e]
      exact ⟨rfl, rfl, rfl⟩
def bd (W : Nat → Nat) : Nat → Int × Nat
  | 0 => (-9, 65)
  | i + 1 => if W i < (bd W i).2 then ((i : Int), W i) else bd W i
theorem bd_suc (W : Nat → Nat) (i : Nat) : bd W (i + 1) = if W i < (bd W i).2 then ((i : Int), W i) else bd W i := rfl
theorem bd_ok {W : Nat → Nat} (h : ∀ k, W k ≤ 64) : ∀ i, (bd W i).2 ≤ 65 ∧ -9 ≤ (bd W i).1 ∧ (bd W i).1 < (i : Int) + 1 ∧ (0 < i → 0 ≤ (bd W i).1) ∧ (i = 0 → bd W i = (-9, 65))
  | 0 => ⟨Nat.le_refl 65, (show (-9 : Int) ≤ -9 by decide), (show (-9 : Int) < ((0 : Nat) : Int) + 1 by decide), fun z => absurd z (by decide), fun _ => rfl⟩
  | i + 1 => by
    have h1 := bd_ok h i
    have h2 := h i
    rw [bd_suc]
    by_cases hc : W i < (bd W i).2
    · rw [if_pos hc]
      exact ⟨by dsimp only; omega, by dsimp only; omega, by dsimp only; omega, fun _ => by dsimp only; omega, fun z => by omega⟩
    · rw [if_neg hc]
      have h0 : i ≠ 0 := fun e => by
        have := h1.2.2.2.2 e
        rw [this] at hc
        dsimp only at hc
        omega
      exact ⟨h1.1, h1.2.1, by omega, fun _ => h1.2.2.2.1 (by omega), fun z => by omega⟩
def wo (A B C : Nat → Int) (n s : Nat) : Nat := fb_ct (gq_W (gq_Q A B C n n) s 64) 64
theorem wo_le (A B C : Nat → Int) (n s : Nat) : wo A B C n s ≤ 64 := fb_ct_le _ 64
theorem e_dearest {sc : XS} {n : Nat} {A B C : Nat → Int} (hc : cL sc n A B C) (hQ : sc.2 0 = lS (gq_Q A B C n n)) : F_All_dearestStreet sc = some (zI (bd (wo A B C n) n).1) := by
  have h6 := hc.2.1
  unfold F_All_dearestStreet
  refine (lp_go (fun i => (zI (bd (wo A B C n) i).1, zI (((bd (wo A B C n) i).2 : Nat) : Int), zI (i : Int))) n (zI (bd (wo A B C n) n).1) (by rfl) (by omega) (fun i hi => ?_) ?_).trans rfl
  · unfold F_All_dearestStreet_b8
    dsimp only
    have hw : F_Pla_quartersWithout (zI (i : Int)) sc = some (zI ((wo A B C n i : Nat) : Int)) := e_qWithout hQ (by omega)
    obtain ⟨b1, -⟩ := bd_ok (wo_le A B C n) i
    have b2 := wo_le A B C n i
    rw [hc.1, if_neg (zI_ge1 (by omega) hi), hw, Option.bind_some, bd_suc]
    simp only [xo_nm_b, zI_suc]
    by_cases hl : wo A B C n i < (bd (wo A B C n) i).2
    · rw [if_neg (by rw [zI_le (zB_n (by omega)) (zB_n (by omega))]; omega), if_pos hl]
    · rw [if_pos (by rw [zI_le (zB_n (by omega)) (zB_n (by omega))]; omega), if_neg hl]
  · unfold F_All_dearestStreet_b8
    dsimp only
    rw [hc.1, if_pos (zI_rfl _)]
theorem e_mdearest {sm : XS} {n : Nat} {A B C : Nat → Int} (h6 : n ≤ 6) (hok : gz_ok A B n) (hm : mL sm n A B C) (hn : sm.1 0 0 = zI (n : Int)) : ∃ r, xo_lp (fun q : (Int32 × Int32 × Int32 × XS) => F_Mod_taken_b35 q.1 q.2.1 q.2.2.1 q.2.2.2) 1000000 ((-9 : Int32), (0 : Int32), (0 : Int32), sm) = some r ∧ r.1 = zI (bd (wo A B C n) n).1 ∧ mS n sm r.2 := by
  refine lp_inv (fun (i : Nat) (x : Int32 × Int32 × Int32 × XS) => x.1 = zI (bd (wo A B C n) i).1 ∧ (0 < i → x.2.1 = zI (((bd (wo A B C n) i).2 : Nat) : Int)) ∧ x.2.2.1 = zI (i : Int) ∧ mS n sm x.2.2.2) _ n 1000000 _ (by omega) ⟨rfl, fun z => absurd z (Nat.lt_irrefl 0), rfl, mS_rfl n sm⟩ ?_ ?_
  · rintro i ⟨x, y, z, t⟩ hi ⟨e1, e2, e3, e4⟩
    dsimp only at e1 e2 e3 e4 ⊢
    subst e1; subst e3
    unfold F_Mod_taken_b35 F_Mod_taken_m65
    have hnt : t.1 0 0 = zI (n : Int) := (e4.2.1 0 (by omega)).trans hn
    obtain ⟨t2, g1, g2⟩ := e_mwithout h6 hok (mL_S hm e4) hnt hi
    have g1' : F_Mod_without (zI (i : Int)) t = some (zI ((wo A B C n i : Nat) : Int), t2) := g1
    have hS := mS_trans e4 g2
    obtain ⟨b1, b3, b4, b5, b6⟩ := bd_ok (wo_le A B C n) i
    have b2 := wo_le A B C n i
    rw [hnt, if_neg (zI_ge1 (by omega) hi), g1']
    unfold xo_bn
    rw [Option.bind_some]
    dsimp only
    simp only [xo_nm_b, zI_suc]
    rw [bd_suc]
    by_cases h0 : i = 0
    · have b7 := b6 h0
      rw [b7, if_pos (show zI (-9) < (0 : Int32) by decide), if_pos (show wo A B C n i < 65 by omega)]
      exact ⟨_, rfl, rfl, fun _ => rfl, rfl, hS⟩
    · have b8 := b5 (by omega)
      rw [e2 (by omega), if_neg (by rw [zI_0, zI_lt ⟨by omega, by omega⟩ (by decide)]; omega)]
      by_cases hl : wo A B C n i < (bd (wo A B C n) i).2
      · rw [if_pos (by rw [zI_lt (zB_n (by omega)) (zB_n (by omega))]; omega), if_pos hl]
        exact ⟨_, rfl, rfl, fun _ => rfl, rfl, hS⟩
      · rw [if_neg (by rw [zI_lt (zB_n (by omega)) (zB_n (by omega))]; omega), if_neg hl]
        exact ⟨_, rfl, rfl, fun _ => rfl, rfl, hS⟩
  · rintro ⟨x, y, z, t⟩ ⟨e1, e2, e3, e4⟩
    dsimp only at e1 e2 e3 e4 ⊢
    subst e1; subst e3
    unfold F_Mod_taken_b35
    have hnt : t.1 0 0 = zI (n : Int) := (e4.2.1 0 (by omega)).trans hn
    rw [hnt, if_pos (zI_rfl _)]
    exact ⟨_, rfl, rfl, e4⟩
theorem s_taken (sc sm : XS) (x1 : Int32) (h : xz_RR sc sm) : ∃ (r : Int32) (sc2 sm2 : XS), F_All_taken x1 sc = some (r, sc2) ∧ F_Mod_taken x1 sm = some (r, sm2) ∧ xz_RR sc2 sm2 := by
  obtain ⟨x, hx, rfl⟩ := zI_of x1
  have hq := h
  obtain ⟨⟨n, A, B, C, Kd, P, X, Y, hc, hok, hpl, hkd, hp, hn, hm, hpm⟩, h2, h3, h4, h5⟩ := h
  have h6 := hc.2.1
  unfold F_All_taken F_Mod_taken
  by_cases c1 : x = -1
  · subst c1
    rw [if_pos (show zI (-1) = (-1 : Int32) from rfl), if_pos (show zI (-1) = (-1 : Int32) from rfl), e_dearest hc hpl.2.1]
    obtain ⟨⟨v, t⟩, g1, g2, g3⟩ := e_mdearest h6 hok hm hn
    dsimp only at g2 g3
    rw [g1, Option.bind_some, Option.bind_some, g2]
    exact ⟨_, sc, t, rfl, rfl, RR_S hq hn (by omega) g3⟩
  · have hne : ¬ zI x = (-1 : Int32) := by
      rw [show (-1 : Int32) = zI (-1) from rfl, zI_eq hx (by decide)]; exact c1
    rw [if_neg hne, if_neg hne, e_hasStreet hc hx, e_misStreet hn (by omega) hx, Option.bind_some, Option.bind_some]
    by_cases c : 0 ≤ x ∧ x < (n : Int)
    · obtain ⟨s, rfl⟩ : ∃ p : Nat, x = p := ⟨x.toNat, by omega⟩
      obtain ⟨t, g1, g2⟩ := e_mwithout h6 hok hm hn (show s < n by omega)
      rw [if_pos c, if_neg (by decide), if_neg (by decide), e_qWithout hpl.2.1 (show s < 6 by omega), g1]
      exact ⟨_, sc, t, rfl, rfl, RR_S hq hn (by omega) g2⟩
    · rw [if_neg c, if_pos (show zI 0 = 0 from rfl), if_pos (show zI 0 = 0 from rfl)]
      exact st_no1 hq
end
section
/-! crossings, in least terms -/
theorem zI_div {a b : Int} (ha : ab 100000 a) (hb0 : 0 < b) (hb : b ≤ 100000) : zI a / zI b = zI (a.tdiv b) := by
  unfold ab at ha
  have hB : zB b := ⟨by omega, by omega⟩
  have hA : zB a := ⟨by omega, by omega⟩
  have hne : zI b ≠ (-1 : Int32) := by
    rw [show (-1 : Int32) = zI (-1) from rfl, Ne, zI_eq hB (by decide)]; omega
  have hle := Int.natAbs_tdiv_le_natAbs a b
  apply Int32.toInt_inj.mp
  rw [Int32.toInt_div_of_ne_right _ _ hne, zI_t hA, zI_t hB, zI_t ⟨by omega, by omega⟩]
theorem xo_dv_z {a b : Int} (ha : ab 100000 a) (hb0 : 0 < b) (hb : b ≤ 100000) : xo_dv (zI a) (zI b) = some (zI (a.tdiv b)) := by
  unfold xo_dv
  rw [if_neg (by rw [zI_0, zI_eq ⟨by omega, by omega⟩ (by decide)]; omega), zI_div ha hb0 hb]
theorem xo_rm_z {a b : Int} (ha : ab 100000 a) (hb0 : 0 < b) (hb : b ≤ 100000) : xo_rm (zI a) (zI b) = some (zI (a - a.tdiv b * b)) := by
  unfold xo_rm
  rw [if_neg (by rw [zI_0, zI_eq ⟨by omega, by omega⟩ (by decide)]; omega), zI_div ha hb0 hb, zI_mul, zI_sub]
theorem rm_0 {a b : Int} : a - a.tdiv b * b = 0 ↔ b ∣ a := by
  constructor
  · intro h
    exact ⟨a.tdiv b, by rw [Int.mul_comm]; omega⟩
  · intro h
    rw [Int.tdiv_mul_cancel h]; omega
theorem rm_B {a b : Int} (ha : ab 100000 a) (hb0 : 0 < b) : ab 200000 (a - a.tdiv b * b) := by
  have h1 := Int.natAbs_tdiv_le_natAbs a b
  have h2 : a.tdiv b * b = a.tdiv b * b := rfl
  have h3 : (a.tdiv b * b).natAbs ≤ a.natAbs := by
    rw [Int.natAbs_mul, Int.natAbs_tdiv]
    have := Nat.div_mul_le_self a.natAbs b.natAbs
    exact this
  unfold ab at *
  omega
theorem rm_c {a : Int} {f : Nat} (ha : ab 100000 a) (hf : 0 < f) : (zI (a - a.tdiv (f : Int) * (f : Int)) = (0 : Int32)) ↔ f ∣ a.natAbs := by
  rw [zI_0, zI_eq (ab_B (rm_B ha (by omega)) (by decide)) (by decide), rm_0, Int.ofNat_dvd_left]
theorem e_cancel {u part : Int} {w : Nat} (hu : ab 100000 u) (hp : ab 100000 part) (hw : 0 < w) (hw9 : w ≤ 100000) : F_All_cancelled (zI part) (zI u) (zI (w : Int)) = some (zI (part.tdiv (Nat.gcd u.natAbs w : Int))) := by
  have hgw : Nat.gcd u.natAbs w ≤ w := Nat.le_of_dvd hw (Nat.gcd_dvd_right _ _)
  have hg0 : 0 < Nat.gcd u.natAbs w := Nat.gcd_pos_of_pos_right _ hw
  have hwa : ab 100000 (w : Int) := by unfold ab; omega
  unfold F_All_cancelled
  have hl : ∃ r, xo_lp (fun q : Int32 => F_All_cancelled_b2 (zI part) (zI u) (zI (w : Int)) q) 1000000 (zI (w : Int)) = some r ∧ Sum.elim (fun o5 => (xo_dv (zI part) o5).bind fun v6 => some v6) (fun _ => some (zI part)) r = some (zI (part.tdiv (Nat.gcd u.natAbs w : Int))) := by
    refine lp_ex (fun (i : Nat) (x : Int32) => x = zI ((w - i : Nat) : Int) ∧ ∀ f, w - i < f → f ≤ w → ¬ (f ∣ u.natAbs ∧ f ∣ w)) _ (w - 1) 1000000 _ (by omega) ⟨rfl, fun f h1 h2 => by omega⟩ ?_ ?_
    · rintro i x hi ⟨rfl, h2⟩
      unfold F_All_cancelled_b2
      have hn1 : ¬ zI ((w - i : Nat) : Int) ≤ (1 : Int32) := by
        rw [zI_1, zI_le (zB_n (by omega)) (by decide)]; omega
      have e1 : zI ((w - i : Nat) : Int) + (-1 : Int32) = zI ((w - (i + 1) : Nat) : Int) := by
        rw [show (-1 : Int32) = zI (-1) from rfl, zI_add, show ((w - i : Nat) : Int) + -1 = ((w - (i + 1) : Nat) : Int) by omega]
      have c1 := rm_c (f := w - i) hu (by omega)
      have c2 := rm_c (f := w - i) hwa (by omega)
      have e2 : (w : Int).natAbs = w := rfl
      rw [e2] at c2
      rw [if_neg hn1, xo_rm_z hu (by omega) (by omega), Option.bind_some, xo_rm_z hwa (by omega) (by omega), Option.bind_some]
      simp only [xo_nm_b, e1]
      have hno : ¬ (w - i ∣ u.natAbs ∧ w - i ∣ w) → ∀ f, w - (i + 1) < f → f ≤ w → ¬ (f ∣ u.natAbs ∧ f ∣ w) := fun h f h3 h4 => by
        by_cases e : f = w - i
        · subst e; exact h
        · exact h2 f (by omega) h4
      by_cases d1 : w - i ∣ u.natAbs
      · rw [if_pos (c1.mpr d1)]
        by_cases d2 : w - i ∣ w
        · rw [if_pos (c2.mpr d2)]
          refine Or.inr ⟨_, rfl, ?_⟩
          have hdg : w - i ∣ Nat.gcd u.natAbs w := Nat.dvd_gcd d1 d2
          have hle := Nat.le_of_dvd hg0 hdg
          have heq : w - i = Nat.gcd u.natAbs w := by
            rcases Nat.lt_or_ge (w - i) (Nat.gcd u.natAbs w) with q | q
            · exact absurd ⟨Nat.gcd_dvd_left _ _, Nat.gcd_dvd_right _ _⟩ (h2 _ q hgw)
            · omega
          show (xo_dv (zI part) (zI ((w - i : Nat) : Int))).bind _ = _
          rw [xo_dv_z hp (by omega) (by omega), heq]; rfl
        · rw [if_neg (fun z => d2 (c2.mp z))]
          exact Or.inl ⟨_, rfl, rfl, hno (fun z => d2 z.2)⟩
      · rw [if_neg (fun z => d1 (c1.mp z))]
        exact Or.inl ⟨_, rfl, rfl, hno (fun z => d1 z.1)⟩
    · rintro x ⟨rfl, h2⟩
      unfold F_All_cancelled_b2
      have hw1 : w - (w - 1) = 1 := by omega
      rw [hw1, if_pos (show zI ((1 : Nat) : Int) ≤ (1 : Int32) from zI_rfl 1)]
      refine ⟨_, rfl, ?_⟩
      have hg1 : Nat.gcd u.natAbs w = 1 := by
        rcases Nat.lt_or_ge 1 (Nat.gcd u.natAbs w) with q | q
        · exact absurd ⟨Nat.gcd_dvd_left _ _, Nat.gcd_dvd_right _ _⟩ (h2 _ (by omega) hgw)
        · omega
      rw [hg1]
      have : part.tdiv ((1 : Nat) : Int) = part := Int.tdiv_one part
      rw [this]; rfl
  obtain ⟨r, h1, h2⟩ := hl
  rw [h1, Option.bind_some, h2]
theorem e_gcd (x3 x4 x5 : Int32) (st : XS) : ∀ (q p fuel : Nat), p ≤ 100000 → q ≤ 100000 → q < fuel → xo_lp (fun z : (Int32 × Int32) => F_Mod_crossing_b162 x3 x4 x5 st z.1 z.2) fuel (zI (p : Int), zI (q : Int)) = some (zI (Nat.gcd p q : Int)) := by
  intro q
  induction q using Nat.strongRecOn with
  | ind q ih =>
    intro p fuel hp hq hf
    obtain ⟨m, rfl⟩ : ∃ m, fuel = m + 1 := ⟨fuel - 1, by omega⟩
    rw [xo_lp]
    unfold F_Mod_crossing_b162
    dsimp only
    by_cases h0 : q = 0
    · subst h0
      rw [if_pos (show zI ((0 : Nat) : Int) = (0 : Int32) from rfl), Nat.gcd_zero_right]; rfl
    · have hpa : ab 100000 (p : Int) := by unfold ab; omega
      have hmod : (p : Int) - (p : Int).tdiv (q : Int) * (q : Int) = ((p % q : Nat) : Int) := by
        have h1 : (p : Int).tdiv (q : Int) = ((p / q : Nat) : Int) := rfl
        have h2 := Nat.div_add_mod' p q
        rw [h1, ← Int.natCast_mul]
        omega
      rw [if_neg (by rw [zI_0, zI_eq (zB_n (by omega)) (by decide)]; omega), xo_rm_z hpa (by omega) (by omega), hmod]
      have hlt : p % q < q := Nat.mod_lt _ (by omega)
      have hi := ih (p % q) hlt q m hq (by omega) (by omega)
      rw [Option.bind_some, Option.bind_some]
      refine Eq.trans hi ?_
      rw [Nat.gcd_comm p q, Nat.gcd_rec q p, Nat.gcd_comm]
theorem e_cr151 {k : Nat} (hk : k < 4) {u : Int} {w : Nat} (hu : ab 100000 u) (hw : 0 < w) (hw9 : w ≤ 100000) (st : XS) : F_Mod_crossing_m151 (zI (k : Int)) (zI (w : Int)) (zI u) st = some (zI (if k % 2 = 0 then u.tdiv (Nat.gcd u.natAbs w : Int) else (w : Int).tdiv (Nat.gcd u.natAbs w : Int)), st) := by
  have hgw : Nat.gcd u.natAbs w ≤ w := Nat.le_of_dvd hw (Nat.gcd_dvd_right _ _)
  have hg0 : 0 < Nat.gcd u.natAbs w := Nat.gcd_pos_of_pos_right _ hw
  have hub : zB u := ab_B hu (by decide)
  have hua : u.natAbs ≤ 100000 := hu
  have hwa : ab 100000 (w : Int) := by unfold ab; omega
  have e1 : (if (0 : Int32) ≤ zI u then zI u else (0 : Int32) - zI u) = zI ((u.natAbs : Nat) : Int) := by
    rw [zI_0]
    by_cases h : 0 ≤ u
    · rw [if_pos ((zI_le (by decide) hub).mpr h), show ((u.natAbs : Nat) : Int) = u by omega]
    · rw [if_neg (fun z => h ((zI_le (by decide) hub).mp z)), zI_sub, show ((u.natAbs : Nat) : Int) = 0 - u by omega]
  unfold F_Mod_crossing_m151
  rw [xo_nm_b, e1, e_gcd _ _ _ _ w u.natAbs 1000000 hua (by omega) (by omega), Option.bind_some]
  have e2 : xo_rm (zI (k : Int)) (2 : Int32) = some (zI ((k % 2 : Nat) : Int)) := by
    rcases (show k = 0 ∨ k = 1 ∨ k = 2 ∨ k = 3 by omega) with rfl | rfl | rfl | rfl <;> decide +kernel
  rw [e2, Option.bind_some, xo_dv_z hu (by omega) (by omega), xo_dv_z hwa (by omega) (by omega), Option.bind_some, Option.bind_some]
  by_cases h : k % 2 = 0
  · rw [if_pos (show zI ((k % 2 : Nat) : Int) = (0 : Int32) by rw [h]; rfl), if_pos h]
  · rw [if_neg (by rw [zI_0, zI_eq (zB_n (by omega)) (by decide)]; omega), if_neg h]
theorem e_cr134 {k : Nat} (hk : k < 4) {d v : Int} (hd0 : d ≠ 0) (hd : ab 162 d) (hv : ab 1782 v) (st : XS) : F_Mod_crossing_m134 (zI (k : Int)) (zI d) (zI v) st = some (zI (if k % 2 = 0 then (gz_sg d * v).tdiv (Nat.gcd (gz_sg d * v).natAbs (gz_sg d * d).natAbs : Int) else (gz_sg d * d).tdiv (Nat.gcd (gz_sg d * v).natAbs (gz_sg d * d).natAbs : Int)), st) := by
  have hdp := gz_sg_pos hd0
  obtain ⟨w, hw⟩ : ∃ w : Nat, gz_sg d * d = (w : Int) := ⟨(gz_sg d * d).toNat, by omega⟩
  have hw2 : ab 162 (w : Int) := by rw [← hw]; exact ab_sg d hd
  have hw3 : w ≤ 162 := by unfold ab at hw2; omega
  have hu : ab 100000 (gz_sg d * v) := by
    have := ab_sg d hv
    unfold ab at *; omega
  have h1 := e_cr151 hk hu (w := w) (by omega) (by omega) st
  have e2 : (w : Int).natAbs = w := rfl
  rw [hw, e2]
  rw [← h1, ← hw]
  unfold F_Mod_crossing_m134 gz_sg
  by_cases h : d < 0
  · rw [if_pos h, if_neg (by rw [zI_0, zI_le (by decide) (ab_B hd (by decide))]; omega), xo_nm_b, xo_nm_b, zI_neg, zI_neg, show -1 * v = -v by omega, show -1 * d = -d by omega]
  · rw [if_neg h, if_pos (by rw [zI_0, zI_le (by decide) (ab_B hd (by decide))]; omega), Int.one_mul, Int.one_mul]
end
section
/-! crossings: both alike -/
theorem s_crossing (sc sm : XS) (x1 x2 x3 : Int32) (h : xz_RR sc sm) : ∃ (r : Int32) (sc2 sm2 : XS), F_All_crossing x1 x2 x3 sc = some (r, sc2) ∧ F_Mod_crossing x1 x2 x3 sm = some (r, sm2) ∧ xz_RR sc2 sm2 := by
  obtain ⟨x, hx, rfl⟩ := zI_of x1
  obtain ⟨y, hy, rfl⟩ := zI_of x2
  obtain ⟨z, hz, rfl⟩ := zI_of x3
  have hq := h
  obtain ⟨⟨n, A, B, C, Kd, P, X, Y, hc, hok, hpl, hkd, hp, hn, hm, hpm⟩, h2, h3, h4, h5⟩ := h
  have h6 := hc.2.1
  unfold F_All_crossing F_Mod_crossing F_All_crossing_m27 F_Mod_crossing_m21
  have hw : F_Mod_within (zI z) (0 : Int32) (3 : Int32) = some (zI (if 0 ≤ z ∧ z ≤ 3 then 1 else 0)) := e_mwithin (a := 0) (b := 3) hz (by decide) (by decide)
  rw [e_hasStreet hc hx, e_misStreet hn (by omega) hx, Option.bind_some, Option.bind_some]
  by_cases c : 0 ≤ x ∧ x < (n : Int)
  · obtain ⟨i, rfl⟩ : ∃ p : Nat, x = p := ⟨x.toNat, by omega⟩
    rw [if_pos c, if_neg (show ¬ zI 1 = 0 by decide), if_neg (show ¬ zI 1 = 0 by decide), e_hasStreet hc hy, e_misStreet hn (by omega) hy, Option.bind_some, Option.bind_some]
    by_cases d : 0 ≤ y ∧ y < (n : Int)
    · obtain ⟨j, rfl⟩ : ∃ p : Nat, y = p := ⟨y.toNat, by omega⟩
      rw [if_pos d, if_neg (show ¬ zI 1 = 0 by decide), if_neg (show ¬ zI 1 = 0 by decide)]
      have hi : i < n := by omega
      have hj : j < n := by omega
      by_cases e : i = j
      · subst e
        rw [if_pos rfl, if_pos rfl]
        exact st_far1 hq
      · have hne : ¬ zI (i : Int) = zI (j : Int) := by
          rw [zI_eq (zB_n (by omega)) (zB_n (by omega))]; omega
        rw [if_neg hne, if_neg hne, hw, Option.bind_some, e_cW hc hi hj, e_cX hc hi hj, e_cY hc hi hj]
        have hd0 := hok.2 i j hi hj e
        obtain ⟨a1, a2, a3⟩ := hc.2.2.2 i hi
        obtain ⟨b1, b2, b3⟩ := hc.2.2.2 j hj
        obtain ⟨bX, bY, bW⟩ := gX_ab hc.2.2.2 a1 a2 a3 hj
        have hW := gz_W_pos hd0
        obtain ⟨w, hw9⟩ : ∃ w : Nat, gz_W A B (A i) (B i) j = (w : Int) := ⟨(gz_W A B (A i) (B i) j).toNat, by omega⟩
        have hX9 : ab 100000 (gz_X A B C (A i) (B i) (C i) j) := by unfold ab at *; omega
        have hY9 : ab 100000 (gz_Y A B C (A i) (B i) (C i) j) := by unfold ab at *; omega
        have hw0 : 0 < w := by omega
        have hw3 : w ≤ 100000 := by rw [hw9] at bW; unfold ab at bW; omega
        have hwa : ab 100000 (w : Int) := by unfold ab; omega
        obtain ⟨m1, m2, m3⟩ := hm.2.1 i hi
        obtain ⟨l1, l2, l3⟩ := hm.2.1 j hj
        have e1 : A i * B j - A j * B i = gz_t A B (A i) (B i) j := by unfold gz_t; grind
        have vX : ab 1782 (C i * B j - C j * B i) := ab_sub (ab_mul a3 b2) (ab_mul b3 a2)
        have vY : ab 1782 (A i * C j - A j * C i) := ab_sub (ab_mul a1 b3) (ab_mul b1 a3)
        have eX : gz_sg (gz_t A B (A i) (B i) j) * (C i * B j - C j * B i) = gz_X A B C (A i) (B i) (C i) j := by
          unfold gz_X
          rw [Int.mul_comm (C j) (B i)]
        have eY : gz_sg (gz_t A B (A i) (B i) j) * (A i * C j - A j * C i) = gz_Y A B C (A i) (B i) (C i) j := by
          unfold gz_Y
          rw [Int.mul_comm (A j) (C i)]
        have eW : gz_sg (gz_t A B (A i) (B i) j) * gz_t A B (A i) (B i) j = gz_W A B (A i) (B i) j := rfl
        have hd := gt_ab hc.2.2.2 a1 a2 hj
        have kX : ∀ k : Nat, k < 4 → F_Mod_crossing_m134 (zI (k : Int)) (zI (gz_t A B (A i) (B i) j)) (zI (C i * B j - C j * B i)) sm = some (zI (if k % 2 = 0 then (gz_X A B C (A i) (B i) (C i) j).tdiv (Nat.gcd (gz_X A B C (A i) (B i) (C i) j).natAbs w : Int) else (w : Int).tdiv (Nat.gcd (gz_X A B C (A i) (B i) (C i) j).natAbs w : Int)), sm) := fun k hk => by
          have e2 : (w : Int).natAbs = w := rfl
          rw [e_cr134 hk hd0 hd vX, eX, eW, hw9, e2]
        have kY : ∀ k : Nat, k < 4 → F_Mod_crossing_m134 (zI (k : Int)) (zI (gz_t A B (A i) (B i) j)) (zI (A i * C j - A j * C i)) sm = some (zI (if k % 2 = 0 then (gz_Y A B C (A i) (B i) (C i) j).tdiv (Nat.gcd (gz_Y A B C (A i) (B i) (C i) j).natAbs w : Int) else (w : Int).tdiv (Nat.gcd (gz_Y A B C (A i) (B i) (C i) j).natAbs w : Int)), sm) := fun k hk => by
          have e2 : (w : Int).natAbs = w := rfl
          rw [e_cr134 hk hd0 hd vY, eY, eW, hw9, e2]
        rw [hw9]
        simp only [Option.bind_some, xo_rd_z (show i < 7 by omega) (show 7 < 2147483648 by decide), xo_rd_z (show j < 7 by omega) (show 7 < 2147483648 by decide), m1, m2, m3, l1, l2, l3, zI_mul, zI_sub, xo_nm_b, e1]
        have k0 : zI z = (0 : Int32) ↔ z = 0 := zi_eq hz (by decide) _ _ rfl rfl
        have k1 : zI z = (1 : Int32) ↔ z = 1 := zi_eq hz (by decide) _ _ rfl rfl
        have k2 : zI z = (2 : Int32) ↔ z = 2 := zi_eq hz (by decide) _ _ rfl rfl
        have k3 : zI z = (3 : Int32) ↔ z = 3 := zi_eq hz (by decide) _ _ rfl rfl
        have k4 : (2 : Int32) ≤ zI z ↔ 2 ≤ z := zi_le (by decide) hz _ _ rfl rfl
        simp only [k0, k1, k2, k3, k4]
        generalize gz_X A B C (A i) (B i) (C i) j = u at *
        generalize gz_Y A B C (A i) (B i) (C i) j = v at *
        by_cases c3 : 0 ≤ z ∧ z ≤ 3
        · rw [if_pos c3, if_neg (show ¬ zI 1 = 0 by decide)]
          rcases (show z = 0 ∨ z = 1 ∨ z = 2 ∨ z = 3 by omega) with rfl | rfl | rfl | rfl
          · have h9 := kX 0 (by decide)
            rw [if_pos rfl] at h9
            have h9' : F_Mod_crossing_m134 (zI 0) (zI (gz_t A B (A i) (B i) j)) (zI (C i * B j - C j * B i)) sm = some (zI (u.tdiv (Nat.gcd u.natAbs w : Int)), sm) := h9
            rw [if_pos rfl, if_neg (by decide), h9', e_cancel hX9 hX9 hw0 hw3]
            exact ⟨_, _, _, rfl, rfl, hq⟩
          · have h9 := kX 1 (by decide)
            rw [if_neg (by decide)] at h9
            have h9' : F_Mod_crossing_m134 (zI 1) (zI (gz_t A B (A i) (B i) j)) (zI (C i * B j - C j * B i)) sm = some (zI ((w : Int).tdiv (Nat.gcd u.natAbs w : Int)), sm) := h9
            rw [if_neg (show ¬ (1 : Int) = 0 by decide), if_pos rfl, if_neg (show ¬ (2 : Int) ≤ 1 by decide), h9', e_cancel hX9 hwa hw0 hw3]
            exact ⟨_, _, _, rfl, rfl, hq⟩
          · have h9 := kY 2 (by decide)
            rw [if_pos rfl] at h9
            have h9' : F_Mod_crossing_m134 (zI 2) (zI (gz_t A B (A i) (B i) j)) (zI (A i * C j - A j * C i)) sm = some (zI (v.tdiv (Nat.gcd v.natAbs w : Int)), sm) := h9
            rw [if_neg (show ¬ (2 : Int) = 0 by decide), if_neg (show ¬ (2 : Int) = 1 by decide), if_pos rfl, if_pos (show (2 : Int) ≤ 2 by decide), h9', e_cancel hY9 hY9 hw0 hw3]
            exact ⟨_, _, _, rfl, rfl, hq⟩
          · have h9 := kY 3 (by decide)
            rw [if_neg (by decide)] at h9
            have h9' : F_Mod_crossing_m134 (zI 3) (zI (gz_t A B (A i) (B i) j)) (zI (A i * C j - A j * C i)) sm = some (zI ((w : Int).tdiv (Nat.gcd v.natAbs w : Int)), sm) := h9
            rw [if_neg (show ¬ (3 : Int) = 0 by decide), if_neg (show ¬ (3 : Int) = 1 by decide), if_neg (show ¬ (3 : Int) = 2 by decide), if_pos rfl, if_pos (show (2 : Int) ≤ 3 by decide), h9', e_cancel hY9 hwa hw0 hw3]
            exact ⟨_, _, _, rfl, rfl, hq⟩
        · rw [if_neg (show ¬ z = 0 by omega), if_neg (show ¬ z = 1 by omega), if_neg (show ¬ z = 2 by omega), if_neg (show ¬ z = 3 by omega), if_neg c3, if_pos (show zI 0 = 0 from rfl)]
          exact st_far2 hq
    · rw [if_neg d, if_pos (show zI 0 = 0 from rfl), if_pos (show zI 0 = 0 from rfl)]
      exact st_far1 hq
  · rw [if_neg c, if_pos (show zI 0 = 0 from rfl), if_pos (show zI 0 = 0 from rfl)]
    exact st_far1 hq
end
section
/-! letters read, as numbers of places: the class and the reference -/
def pt (L : Nat → Nat) (l c a : Nat) : Bool := decide (a < l) && decide (L a = c)
def pd (L : Nat → Nat) (l a : Nat) : Bool := decide (a < l) && decide (48 ≤ L a ∧ L a ≤ 57)
def psn (L : Nat → Nat) (l a : Nat) (v : Int) : Int := if pt L l 45 a then -v else v
def pn (L : Nat → Nat) (l : Nat) (two : Bool) (a : Nat) : Nat × Option Int :=
  if (pt L l 45 a || pt L l 43 a) = true then
    if pd L l (a + 1) = true then
      if (two && pd L l (a + 2)) = true then (a + 3, some (psn L l a (10 * ((L (a + 1) : Int) - 48) + ((L (a + 2) : Int) - 48)))) else (a + 2, some (psn L l a ((L (a + 1) : Int) - 48)))
    else (a + 1, none)
  else (a, none)
/-- the class's state: the place is a, the kind k, the numbers f -/
def cS (st : XS) (a : Nat) (k : Int32) (f : Nat → Int32) : XS := (fun c => if c = 28 then (fun j => if j = 2 then zI (a : Int) else if j = 3 then k else st.1 28 j) else if c = 30 then f else st.1 c, st.2)
theorem cS_self {st : XS} {a : Nat} (h : st.1 28 2 = zI (a : Int)) : st = cS st a (st.1 28 3) (st.1 30) := by
  unfold cS
  refine Prod.ext ?_ rfl
  funext c
  dsimp only
  by_cases e : c = 28
  · subst e
    rw [if_pos rfl]
    funext j
    by_cases e2 : j = 2
    · subst e2; rw [if_pos rfl, h]
    · rw [if_neg e2]
      by_cases e3 : j = 3
      · subst e3; rw [if_pos rfl]
      · rw [if_neg e3]
  · rw [if_neg e]
    by_cases e3 : c = 30
    · subst e3; rw [if_pos rfl]
    · rw [if_neg e3]
theorem cS_at (st : XS) (a b : Nat) (k : Int32) (f : Nat → Int32) : xs_I (cS st a k f) 28 2 (zI (b : Int)) = cS st b k f := by
  unfold cS xs_I
  refine Prod.ext ?_ rfl
  funext c
  dsimp only
  by_cases e : c = 28
  · subst e
    rw [if_pos rfl, if_pos rfl, if_pos rfl]
    funext j
    unfold upd
    by_cases e2 : j = 2
    · subst e2; rw [if_pos rfl, if_pos rfl]
    · simp [e2]
  · rw [if_neg e, if_neg e, if_neg e]
theorem cS_kind (st : XS) (a : Nat) (k k2 : Int32) (f : Nat → Int32) : xs_I (cS st a k f) 28 3 k2 = cS st a k2 f := by
  unfold cS xs_I
  refine Prod.ext ?_ rfl
  funext c
  dsimp only
  by_cases e : c = 28
  · subst e
    rw [if_pos rfl, if_pos rfl, if_pos rfl]
    funext j
    unfold upd
    by_cases e2 : j = 3
    · subst e2; rw [if_pos rfl, if_neg (by decide), if_pos rfl]
    · simp [e2]
  · rw [if_neg e, if_neg e, if_neg e]
theorem cS_num (st : XS) (a : Nat) (k : Int32) (f : Nat → Int32) (g : Nat → Int32) : xs_A (cS st a k f) 30 g = cS st a k g := by
  unfold cS xs_A
  refine Prod.ext ?_ rfl
  funext c
  dsimp only
  by_cases e : c = 30
  · subst e
    rw [if_pos rfl, if_neg (by decide), if_pos rfl]
  · rw [if_neg e, if_neg e, if_neg e]
theorem cS_1 (st : XS) (a : Nat) (k : Int32) (f : Nat → Int32) : (cS st a k f).1 28 1 = st.1 28 1 := rfl
theorem cS_2 (st : XS) (a : Nat) (k : Int32) (f : Nat → Int32) : (cS st a k f).1 28 2 = zI (a : Int) := rfl
theorem cS_3 (st : XS) (a : Nat) (k : Int32) (f : Nat → Int32) : (cS st a k f).1 28 3 = k := rfl
theorem cS_29 (st : XS) (a : Nat) (k : Int32) (f : Nat → Int32) : (cS st a k f).1 29 = st.1 29 := rfl
theorem cS_30 (st : XS) (a : Nat) (k : Int32) (f : Nat → Int32) : (cS st a k f).1 30 = f := rfl
theorem cS_o (st : XS) (a : Nat) (k : Int32) (f : Nat → Int32) {c : Nat} (h : c ≠ 28) (h2 : c ≠ 30) : (cS st a k f).1 c = st.1 c := by
  unfold cS; dsimp only; rw [if_neg h, if_neg h2]
/-- the letters told -/
def lC (st : XS) (L : Nat → Nat) (l : Nat) : Prop := l ≤ 96 ∧ st.1 28 1 = zI (l : Int) ∧ ∀ i, i < l → L i < 256 ∧ st.1 29 i = zI (L i : Int)
theorem e_takes {st : XS} {L : Nat → Nat} {l a c : Nat} (h : lC st L l) (ha : a ≤ l) (hc : c < 256) (k : Int32) (f : Nat → Int32) : F_Let_takes (zI (c : Int)) (cS st a k f) = some (zI (if pt L l c a = true then 1 else 0), cS st (if pt L l c a = true then a + 1 else a) k f) := by
  obtain ⟨h1, h2, h3⟩ := h
  unfold F_Let_takes F_Let_takes_m28 F_Let_takes_m29
  rw [cS_1, cS_2, cS_29, h2]
  by_cases hl : a < l
  · obtain ⟨g1, g2⟩ := h3 a hl
    rw [if_neg (zI_ge1 (by omega) hl), xo_rd_z (show a < 96 by omega) (by decide), Option.bind_some, g2]
    by_cases e : L a = c
    · have hp : pt L l c a = true := by unfold pt; simp [hl, e]
      rw [if_pos (by rw [e]), if_neg (show ¬ (1 : Int32) = 0 by decide), xo_nm_b, zI_suc, cS_at, if_pos hp, if_pos hp]; rfl
    · have hp : ¬ pt L l c a = true := by unfold pt; simp [e]
      rw [if_neg (by rw [zI_eq (zB_n (by omega)) (zB_n (by omega)), Int.ofNat_inj]; exact e), if_pos rfl, if_neg hp, if_neg hp]; rfl
  · have hp : ¬ pt L l c a = true := by unfold pt; simp [hl]
    have e : a = l := by omega
    rw [if_pos (by rw [e]; exact zI_rfl _), if_pos rfl, if_neg hp, if_neg hp]; rfl
theorem e_isDig {st : XS} {L : Nat → Nat} {l a : Nat} (h : lC st L l) (ha : a ≤ l) (k : Int32) (f : Nat → Int32) : F_Let_isDigit (cS st a k f) = some (zI (if pd L l a = true then 1 else 0)) := by
  obtain ⟨h1, h2, h3⟩ := h
  unfold F_Let_isDigit
  rw [cS_1, cS_2, cS_29, h2]
  by_cases hl : a < l
  · obtain ⟨g1, g2⟩ := h3 a hl
    have k1 : zI (L a : Int) < (48 : Int32) ↔ (L a : Int) < 48 := zi_lt (zB_n (by omega)) (by decide) _ _ rfl rfl
    have k2 : (57 : Int32) < zI (L a : Int) ↔ 57 < (L a : Int) := zi_lt (by decide) (zB_n (by omega)) _ _ rfl rfl
    rw [if_neg (zI_ge1 (by omega) hl), xo_rd_z (show a < 96 by omega) (by decide), Option.bind_some, Option.bind_some, g2]
    simp only [k1, k2]
    unfold pd
    rw [decide_eq_true hl, Bool.true_and]
    by_cases c1 : (L a : Int) < 48
    · rw [if_pos c1, if_neg (by simp; omega)]; rfl
    · rw [if_neg c1]
      by_cases c2 : 57 < (L a : Int)
      · rw [if_pos c2, if_neg (by simp; omega)]; rfl
      · rw [if_neg c2, if_pos (by simp; omega)]; rfl
  · have hp : ¬ pd L l a = true := by unfold pd; simp [hl]
    have e : a = l := by omega
    rw [if_pos (by rw [e]; exact zI_rfl _), if_neg hp]; rfl
theorem lp_s1 {σ ρ : Type} {f : σ → Option (σ ⊕ ρ)} {x y : σ} {n : Nat} (h : f x = some (.inl y)) : xo_lp f (n + 1) x = xo_lp f n y := by
  rw [xo_lp, h]; rfl
theorem lp_e1 {σ ρ : Type} {f : σ → Option (σ ⊕ ρ)} {x : σ} {r : ρ} {n : Nat} (h : f x = some (.inr r)) : xo_lp f (n + 1) x = some r := by
  rw [xo_lp, h]; rfl
theorem pd_lt {L : Nat → Nat} {l a : Nat} (h : pd L l a = true) : a < l ∧ 48 ≤ L a ∧ L a ≤ 57 := by
  unfold pd at h
  simpa using h
theorem pt_lt {L : Nat → Nat} {l c a : Nat} (h : pt L l c a = true) : a < l ∧ L a = c := by
  unfold pt at h
  simpa using h
theorem e_dig1 {st : XS} {L : Nat → Nat} {l a : Nat} (h : lC st L l) (hd : pd L l a = true) (k : Int32) (f : Nat → Int32) (x1 x2 x3 : Int32) (v : Int) (i : Nat) (hx : ¬ x2 ≤ zI (i : Int)) : F_Let_readNumber_b35 x1 x2 x3 (zI v) (zI (i : Int)) (cS st a k f) = some (.inl (zI (v * 10 + ((L a : Int) - 48)), zI ((i + 1 : Nat) : Int), cS st (a + 1) k f)) := by
  obtain ⟨d1, d2, d3⟩ := pd_lt hd
  obtain ⟨h1, h2, h3⟩ := id h
  obtain ⟨g1, g2⟩ := h3 a d1
  unfold F_Let_readNumber_b35
  rw [if_neg hx, e_isDig h (by omega), Option.bind_some, if_pos hd, if_neg (by decide), cS_29, cS_2, xo_rd_z (show a < 96 by omega) (by decide), Option.bind_some, g2, xo_nm_b, xo_nm_b, xo_nm_b, zI_suc, zI_suc, cS_at]
  have e10 : (10 : Int32) = zI 10 := rfl
  have e48 : (48 : Int32) = zI 48 := rfl
  rw [e10, e48, zI_mul, zI_add, zI_sub, show v * 10 + (L a : Int) - 48 = v * 10 + ((L a : Int) - 48) by omega]
theorem e_num20 {st : XS} {L : Nat → Nat} {l a w : Nat} (h : lC st L l) (ha : a ≤ l) (hw : w < 3) (two : Bool) (neg : Bool) (k : Int32) (f : Nat → Int32) : F_Let_readNumber_m20 (zI (w : Int)) (zI ((if two then 2 else 1 : Nat) : Int)) (zI (if neg then 1 else 0)) (cS st a k f) = if pd L l a = true then (if (two && pd L l (a + 1)) = true then some (1, cS st (a + 2) k (upd f w (zI (if neg then -(10 * ((L a : Int) - 48) + ((L (a + 1) : Int) - 48)) else (10 * ((L a : Int) - 48) + ((L (a + 1) : Int) - 48)))))) else some (1, cS st (a + 1) k (upd f w (zI (if neg then -((L a : Int) - 48) else (L a : Int) - 48))))) else some (0, cS st a k f) := by
  unfold F_Let_readNumber_m20
  rw [e_isDig h ha, Option.bind_some]
  by_cases hd : pd L l a = true
  · obtain ⟨d1, d2, d3⟩ := pd_lt hd
    rw [if_pos hd, if_neg (by decide), if_pos hd]
    have hend : ∀ (v : Int) (b : Nat), (xo_u2 fun o7 t8 => if zI (if neg then 1 else 0) = (0 : Int32) then (xo_ck 3 (zI (w : Int))).bind fun _ => xo_nm (xs_A t8 30 (upd (t8.1 30) (zI (w : Int)).toNatClampNeg o7)) fun t9 => some ((1 : Int32), t9) else (xo_ck 3 (zI (w : Int))).bind fun _ => xo_nm (xs_A t8 30 (upd (t8.1 30) (zI (w : Int)).toNatClampNeg (-o7))) fun t10 => some ((1 : Int32), t10)) (zI v, cS st b k f) = some ((1 : Int32), cS st b k (upd f w (zI (if neg then -v else v)))) := by
      intro v b
      unfold xo_u2
      dsimp only
      rw [xo_ck_z hw (by decide), Option.bind_some, Option.bind_some, xo_nm_b, xo_nm_b, zI_cl (by omega), cS_30, cS_num, cS_num, zI_neg]
      cases neg with
      | true => rw [if_neg (show ¬ zI (if true = true then 1 else 0) = (0 : Int32) by decide)]; rfl
      | false => rw [if_pos (show zI (if false = true then 1 else 0) = (0 : Int32) from rfl)]; rfl
    have e0 : ((0 : Int32), (0 : Int32), cS st a k f) = (zI 0, zI ((0 : Nat) : Int), cS st a k f) := rfl
    have e6 : (1000000 : Nat) = 999997 + 1 + 1 + 1 := rfl
    rw [e0, e6]
    have hx0 : ¬ zI ((if two then 2 else 1 : Nat) : Int) ≤ zI ((0 : Nat) : Int) := by cases two <;> decide
    rw [lp_s1 (e_dig1 h hd k f _ _ _ 0 0 hx0)]
    have ev : (0 : Int) * 10 + ((L a : Int) - 48) = (L a : Int) - 48 := by omega
    rw [ev]
    cases two with
    | false =>
      rw [lp_e1 (r := (zI ((L a : Int) - 48), cS st (a + 1) k f)) (by
        unfold F_Let_readNumber_b35
        rw [if_pos (show zI ((if false = true then 2 else 1 : Nat) : Int) ≤ zI ((0 + 1 : Nat) : Int) by decide)]), Option.bind_some, hend, Bool.false_and, if_neg (show ¬ (false = true) by decide)]
    | true =>
      rw [Bool.true_and]
      by_cases hd2 : pd L l (a + 1) = true
      · rw [lp_s1 (e_dig1 h hd2 k f _ _ _ _ _ (by decide)), lp_e1 (r := (zI (((L a : Int) - 48) * 10 + ((L (a + 1) : Int) - 48)), cS st (a + 1 + 1) k f)) (by
          unfold F_Let_readNumber_b35
          rw [if_pos (show zI ((if true = true then 2 else 1 : Nat) : Int) ≤ zI ((0 + 1 + 1 : Nat) : Int) by decide)]), Option.bind_some, hend, if_pos hd2, Int.mul_comm ((L a : Int) - 48) 10]
      · rw [lp_e1 (r := (zI ((L a : Int) - 48), cS st (a + 1) k f)) (by
          unfold F_Let_readNumber_b35
          dsimp only
          rw [if_neg (show ¬ zI ((if true = true then 2 else 1 : Nat) : Int) ≤ zI ((0 + 1 : Nat) : Int) by decide), e_isDig h (by omega), Option.bind_some, if_neg hd2, if_pos (show zI 0 = (0 : Int32) from rfl)]), Option.bind_some, hend, if_neg hd2]
  · rw [if_neg hd, if_pos (show zI 0 = (0 : Int32) from rfl), if_neg hd]
theorem e_readNum {st : XS} {L : Nat → Nat} {l a w : Nat} (h : lC st L l) (ha : a ≤ l) (hw : w < 3) (two : Bool) (k : Int32) (f : Nat → Int32) : F_Let_readNumber (zI (w : Int)) (zI ((if two then 2 else 1 : Nat) : Int)) (cS st a k f) = match pn L l two a with
    | (b, none) => some (0, cS st b k f)
    | (b, some v) => some (1, cS st b k (upd f w (zI v))) := by
  unfold F_Let_readNumber
  have t1 : F_Let_takes (45 : Int32) (cS st a k f) = some (zI (if pt L l 45 a = true then 1 else 0), cS st (if pt L l 45 a = true then a + 1 else a) k f) := e_takes (c := 45) h ha (by decide) k f
  have t2 : F_Let_takes (43 : Int32) (cS st a k f) = some (zI (if pt L l 43 a = true then 1 else 0), cS st (if pt L l 43 a = true then a + 1 else a) k f) := e_takes (c := 43) h ha (by decide) k f
  rw [t1]
  unfold xo_bn
  rw [Option.bind_some]
  dsimp only
  unfold pn psn
  have fin : ∀ neg : Bool, a + 1 ≤ l → F_Let_readNumber_m20 (zI (w : Int)) (zI ((if two then 2 else 1 : Nat) : Int)) (zI (if neg then 1 else 0)) (cS st (a + 1) k f) = match (if pd L l (a + 1) = true then if (two && pd L l (a + 2)) = true then (a + 3, some (if neg then -(10 * ((L (a + 1) : Int) - 48) + ((L (a + 2) : Int) - 48)) else (10 * ((L (a + 1) : Int) - 48) + ((L (a + 2) : Int) - 48)))) else (a + 2, some (if neg then -((L (a + 1) : Int) - 48) else ((L (a + 1) : Int) - 48))) else (a + 1, none) : Nat × Option Int) with
      | (b, none) => some (0, cS st b k f)
      | (b, some v) => some (1, cS st b k (upd f w (zI v))) := by
    intro neg hl
    rw [e_num20 h hl hw two neg k f]
    by_cases c1 : pd L l (a + 1) = true
    · rw [if_pos c1, if_pos c1]
      by_cases c2 : (two && pd L l (a + 2)) = true
      · rw [if_pos c2, if_pos c2]
      · rw [if_neg c2, if_neg c2]
    · rw [if_neg c1, if_neg c1]
  by_cases c1 : pt L l 45 a = true
  · have hl := (pt_lt c1).1
    have := fin true (by omega)
    rw [if_pos rfl, if_pos rfl] at this
    rw [if_pos c1, if_pos c1, if_neg (show ¬ zI 1 = (0 : Int32) by decide), c1, Bool.true_or, if_pos rfl, if_pos rfl, if_pos rfl]
    exact this
  · have c1' : pt L l 45 a = false := by simpa using c1
    rw [if_neg c1, if_neg c1, if_pos (show zI 0 = (0 : Int32) from rfl), t2, Option.bind_some, c1', Bool.false_or]
    dsimp only
    by_cases c2 : pt L l 43 a = true
    · have hl := (pt_lt c2).1
      have := fin false (by omega)
      rw [if_neg (show ¬ (false = true) by decide), if_neg (show ¬ (false = true) by decide)] at this
      rw [if_pos c2, if_pos c2, if_neg (show ¬ zI 1 = (0 : Int32) by decide), if_pos c2, if_neg (show ¬ (false = true) by decide), if_neg (show ¬ (false = true) by decide)]
      exact this
    · rw [if_neg c2, if_neg c2, if_pos (show zI 0 = (0 : Int32) from rfl), if_neg c2]
end
section
/-! a statement read, as the class does it -/
def kx (c : Nat) : Int := if c = 112 then 0 else if c = 108 then 1 else if c = 100 then 2 else if c = 103 then 3 else if c = 116 then 4 else if c = 110 then 5 else -1
theorem kx_b (c : Nat) : -1 ≤ kx c ∧ kx c < 6 := by
  unfold kx
  split
  · omega
  · split
    · omega
    · split
      · omega
      · split
        · omega
        · split
          · omega
          · split <;> omega
theorem e_ix : ∀ c, c < 256 → F_Str_indexOf1 (zI ((c : Nat) : Int)) = some (zI (kx c)) := by decide +kernel
theorem e_chr : ∀ c, c < 256 → ((zI ((c : Nat) : Int)).toUInt32 % 65536).toInt32 = zI ((c : Nat) : Int) := by decide +kernel
def pk (L : Nat → Nat) (l a : Nat) : Bool := decide (a < l) && decide (0 ≤ kx (L a))
def pb {α β : Type} (x : Nat × Option α) (g : Nat → α → Nat × Option β) : Nat × Option β := match x with
  | (a, none) => (a, none)
  | (a, some v) => g a v
def ps (L : Nat → Nat) (l a : Nat) : Nat × Option (Int × Int × Int × Int) :=
  if pt L l 115 a = true then
    if pk L l (a + 1) = true then pb (pn L l false (a + 2)) fun b u => pb (pn L l false b) fun c v => pb (pn L l true c) fun d w => (d, some (kx (L (a + 1)), u, v, w))
    else (a + 1, none)
  else if pt L l 112 a = true then pb (pn L l true (a + 1)) fun b u => pb (pn L l true b) fun c v => (c, some (-1, u, v, 0))
  else (a, none)
def pc (L : Nat → Nat) (l a : Nat) : Nat × Option (Int × Int × Int × Int) := pb (ps L l a) fun b r => if pt L l 59 b = true then (b + 1, some r) else (b, none)
theorem pn_le {L : Nat → Nat} {l : Nat} {two : Bool} {a : Nat} (h : a ≤ l) : a ≤ (pn L l two a).1 ∧ (pn L l two a).1 ≤ l := by
  unfold pn
  by_cases c1 : (pt L l 45 a || pt L l 43 a) = true
  · have hl : a < l := by
      rw [Bool.or_eq_true] at c1
      rcases c1 with c | c <;> exact (pt_lt c).1
    rw [if_pos c1]
    by_cases c2 : pd L l (a + 1) = true
    · have := (pd_lt c2).1
      rw [if_pos c2]
      by_cases c3 : (two && pd L l (a + 2)) = true
      · rw [if_pos c3]
        rw [Bool.and_eq_true] at c3
        have := (pd_lt c3.2).1
        exact ⟨by dsimp only; omega, by dsimp only; omega⟩
      · rw [if_neg c3]
        exact ⟨by dsimp only; omega, by dsimp only; omega⟩
    · rw [if_neg c2]
      exact ⟨by dsimp only; omega, by dsimp only; omega⟩
  · rw [if_neg c1]
    exact ⟨Nat.le_refl a, h⟩
theorem pn_val {L : Nat → Nat} {l : Nat} {two : Bool} {a b : Nat} {v : Int} (h : pn L l two a = (b, some v)) : ab (if two then 99 else 9) v ∧ a < b := by
  unfold pn at h
  by_cases c1 : (pt L l 45 a || pt L l 43 a) = true
  · rw [if_pos c1] at h
    by_cases c2 : pd L l (a + 1) = true
    · obtain ⟨-, d1, d2⟩ := pd_lt c2
      rw [if_pos c2] at h
      by_cases c3 : (two && pd L l (a + 2)) = true
      · rw [if_pos c3] at h
        rw [Bool.and_eq_true] at c3
        obtain ⟨-, d3, d4⟩ := pd_lt c3.2
        obtain ⟨e1, e2⟩ := Prod.mk.inj h
        have e2 := Option.some.inj e2
        rw [c3.1, if_pos rfl]
        unfold psn at e2
        unfold ab
        split at e2 <;> exact ⟨by omega, by omega⟩
      · rw [if_neg c3] at h
        obtain ⟨e1, e2⟩ := Prod.mk.inj h
        have e2 := Option.some.inj e2
        unfold psn at e2
        unfold ab
        cases two <;> (split at e2 <;> exact ⟨by simp; omega, by omega⟩)
    · rw [if_neg c2] at h
      obtain ⟨e1, e2⟩ := Prod.mk.inj h
      cases e2
  · rw [if_neg c1] at h
    obtain ⟨e1, e2⟩ := Prod.mk.inj h
    cases e2
theorem e_rn_n {st : XS} {L : Nat → Nat} {l a b w : Nat} (h : lC st L l) (ha : a ≤ l) (hw : w < 3) (two : Bool) (k : Int32) (f : Nat → Int32) (hp : pn L l two a = (b, none)) : F_Let_readNumber (zI (w : Int)) (zI ((if two then 2 else 1 : Nat) : Int)) (cS st a k f) = some (0, cS st b k f) := by
  rw [e_readNum h ha hw, hp]
theorem e_rn_s {st : XS} {L : Nat → Nat} {l a b w : Nat} {v : Int} (h : lC st L l) (ha : a ≤ l) (hw : w < 3) (two : Bool) (k : Int32) (f : Nat → Int32) (hp : pn L l two a = (b, some v)) : F_Let_readNumber (zI (w : Int)) (zI ((if two then 2 else 1 : Nat) : Int)) (cS st a k f) = some (1, cS st b k (upd f w (zI v))) := by
  rw [e_readNum h ha hw, hp]
theorem e_readKind {st : XS} {L : Nat → Nat} {l a : Nat} (h : lC st L l) (ha : a ≤ l) (k : Int32) (f : Nat → Int32) : F_Let_readKind (cS st a k f) = some (zI (if pk L l a = true then 1 else 0), cS st (if pk L l a = true then a + 1 else a) (if a < l then zI (kx (L a)) else -1) f) := by
  obtain ⟨h1, h2, h3⟩ := h
  unfold F_Let_readKind F_Let_readKind_m31
  rw [cS_1, cS_2, cS_29, h2]
  by_cases hl : a < l
  · obtain ⟨g1, g2⟩ := h3 a hl
    have hb := kx_b (L a)
    rw [if_neg (zI_ge1 (by omega) hl), xo_rd_z (show a < 96 by omega) (by decide), Option.bind_some, g2, e_chr _ g1, e_ix _ g1, Option.bind_some, xo_nm_b, cS_kind, cS_3, cS_2, xo_nm_b, zI_suc, cS_at, if_pos hl]
    have k1 : (0 : Int32) ≤ zI (kx (L a)) ↔ 0 ≤ kx (L a) := zi_le (by decide) ⟨by omega, by omega⟩ _ _ rfl rfl
    simp only [k1]
    unfold pk
    rw [decide_eq_true hl, Bool.true_and]
    by_cases c : 0 ≤ kx (L a)
    · rw [if_pos c, decide_eq_true c, if_pos rfl, if_pos rfl]; rfl
    · rw [if_neg c, decide_eq_false c, if_neg (by decide), if_neg (by decide)]; rfl
  · have hp : ¬ pk L l a = true := by unfold pk; simp [hl]
    have e : a = l := by omega
    rw [if_pos (by rw [e]; exact zI_rfl _), xo_nm_b, cS_kind, cS_3, if_neg (show ¬ (0 : Int32) ≤ (-1 : Int32) by decide), if_neg hp, if_neg hp, if_neg hl]; rfl
def pOK (st : XS) (x : Option (Int32 × XS)) (y : Nat × Option (Int × Int × Int × Int)) : Prop := ∃ (k' : Int32) (f' : Nat → Int32), x = some (zI (if y.2.isSome = true then 1 else 0), cS st y.1 k' f') ∧ ∀ r, y.2 = some r → k' = zI r.1 ∧ f' 0 = zI r.2.1 ∧ f' 1 = zI r.2.2.1 ∧ (0 ≤ r.1 → f' 2 = zI r.2.2.2)
theorem pOK_no {st : XS} {b : Nat} {k : Int32} {f : Nat → Int32} : pOK st (some ((0 : Int32), cS st b k f)) (b, none) := ⟨k, f, rfl, fun r h => by cases h⟩
theorem e_semi {st : XS} {L : Nat → Nat} {l d : Nat} (h : lC st L l) (hd : d ≤ l) (k : Int32) (f : Nat → Int32) (r : Int × Int × Int × Int) (h1 : k = zI r.1) (h2 : f 0 = zI r.2.1) (h3 : f 1 = zI r.2.2.1) (h4 : 0 ≤ r.1 → f 2 = zI r.2.2.2) : pOK st (xo_bn (F_Let_takes (59 : Int32) (cS st d k f)) fun v20 t21 => if v20 = (0 : Int32) then some ((0 : Int32), t21) else some ((1 : Int32), t21)) (if pt L l 59 d = true then (d + 1, some r) else (d, none)) := by
  have t1 : F_Let_takes (59 : Int32) (cS st d k f) = some (zI (if pt L l 59 d = true then 1 else 0), cS st (if pt L l 59 d = true then d + 1 else d) k f) := e_takes (c := 59) h hd (by decide) k f
  rw [t1]
  unfold xo_bn
  rw [Option.bind_some]
  dsimp only
  by_cases c : pt L l 59 d = true
  · rw [if_pos c, if_pos c, if_neg (show ¬ zI 1 = (0 : Int32) by decide), if_pos c]
    exact ⟨k, f, rfl, fun r2 h9 => by cases h9; exact ⟨h1, h2, h3, h4⟩⟩
  · rw [if_neg c, if_neg c, if_pos (show zI 0 = (0 : Int32) from rfl), if_neg c]
    exact pOK_no
theorem e_readStmt {st : XS} {L : Nat → Nat} {l a : Nat} (h : lC st L l) (ha : a ≤ l) (k : Int32) (f : Nat → Int32) : pOK st (F_Let_readStatement (cS st a k f)) (pc L l a) := by
  unfold F_Let_readStatement pc ps
  have t1 : F_Let_takes (115 : Int32) (cS st a (-1 : Int32) f) = some (zI (if pt L l 115 a = true then 1 else 0), cS st (if pt L l 115 a = true then a + 1 else a) (-1 : Int32) f) := e_takes (c := 115) h ha (by decide) _ f
  rw [xo_nm_b, cS_kind, t1]
  unfold xo_bn
  rw [Option.bind_some]
  dsimp only
  by_cases c1 : pt L l 115 a = true
  · have hl := (pt_lt c1).1
    rw [if_pos c1, if_pos c1, if_neg (show ¬ zI 1 = (0 : Int32) by decide), if_pos c1, e_readKind h (show a + 1 ≤ l by omega), Option.bind_some]
    dsimp only
    by_cases c2 : pk L l (a + 1) = true
    · have hl2 : a + 1 < l := by
        unfold pk at c2
        rw [Bool.and_eq_true, decide_eq_true_eq] at c2
        exact c2.1
      rw [if_pos c2, if_pos c2, if_neg (show ¬ zI 1 = (0 : Int32) by decide), if_pos c2, if_pos hl2]
      generalize hkz : zI (kx (L (a + 1))) = kz
      rcases hp : pn L l false (a + 2) with ⟨b, _ | u⟩
      · have r0 : F_Let_readNumber (0 : Int32) (1 : Int32) (cS st (a + 2) kz f) = some (0, cS st b kz f) := e_rn_n (w := 0) h (by omega) (by decide) false kz f hp
        have r0' : F_Let_readNumber (0 : Int32) (1 : Int32) (cS st (a + 1 + 1) kz f) = some (0, cS st b kz f) := r0
        rw [r0', Option.bind_some]
        dsimp only
        rw [if_pos rfl]
        exact pOK_no
      · have r0 : F_Let_readNumber (0 : Int32) (1 : Int32) (cS st (a + 2) kz f) = some (1, cS st b kz (upd f 0 (zI u))) := e_rn_s (w := 0) h (by omega) (by decide) false kz f hp
        have r0' : F_Let_readNumber (0 : Int32) (1 : Int32) (cS st (a + 1 + 1) kz f) = some (1, cS st b kz (upd f 0 (zI u))) := r0
        have hb : b ≤ l := by have := (pn_le (L := L) (two := false) (show a + 2 ≤ l by omega)).2; rw [hp] at this; exact this
        rw [r0', Option.bind_some]
        dsimp only
        rw [if_neg (show ¬ (1 : Int32) = 0 by decide)]
        show pOK st _ (pb (pb (pn L l false b) _) _)
        rcases hp2 : pn L l false b with ⟨c, _ | v⟩
        · have r1 : F_Let_readNumber (1 : Int32) (1 : Int32) (cS st b kz (upd f 0 (zI u))) = some (0, cS st c kz (upd f 0 (zI u))) := e_rn_n (w := 1) h hb (by decide) false kz _ hp2
          rw [r1, Option.bind_some]
          dsimp only
          rw [if_pos rfl]
          exact pOK_no
        · have r1 : F_Let_readNumber (1 : Int32) (1 : Int32) (cS st b kz (upd f 0 (zI u))) = some (1, cS st c kz (upd (upd f 0 (zI u)) 1 (zI v))) := e_rn_s (w := 1) h hb (by decide) false kz _ hp2
          have hc : c ≤ l := by have := (pn_le (L := L) (two := false) hb).2; rw [hp2] at this; exact this
          rw [r1, Option.bind_some]
          dsimp only
          rw [if_neg (show ¬ (1 : Int32) = 0 by decide)]
          show pOK st _ (pb (pb (pn L l true c) _) _)
          rcases hp3 : pn L l true c with ⟨d, _ | w⟩
          · have r2 : F_Let_readNumber (2 : Int32) (2 : Int32) (cS st c kz (upd (upd f 0 (zI u)) 1 (zI v))) = some (0, cS st d kz (upd (upd f 0 (zI u)) 1 (zI v))) := e_rn_n (w := 2) h hc (by decide) true kz _ hp3
            rw [r2, Option.bind_some]
            dsimp only
            rw [if_pos rfl]
            exact pOK_no
          · have r2 : F_Let_readNumber (2 : Int32) (2 : Int32) (cS st c kz (upd (upd f 0 (zI u)) 1 (zI v))) = some (1, cS st d kz (upd (upd (upd f 0 (zI u)) 1 (zI v)) 2 (zI w))) := e_rn_s (w := 2) h hc (by decide) true kz _ hp3
            have hd : d ≤ l := by have := (pn_le (L := L) (two := true) hc).2; rw [hp3] at this; exact this
            rw [r2, Option.bind_some]
            dsimp only
            rw [if_neg (show ¬ (1 : Int32) = 0 by decide)]
            exact e_semi h hd kz _ (kx (L (a + 1)), u, v, w) hkz.symm (by rw [upd_n (by decide), upd_n (by decide), upd_e]) (by rw [upd_n (by decide), upd_e]) (fun _ => by rw [upd_e])
    · rw [if_neg c2, if_neg c2, if_pos (show zI 0 = (0 : Int32) from rfl), if_neg c2]
      exact pOK_no
  · have t2 : F_Let_takes (112 : Int32) (cS st a (-1 : Int32) f) = some (zI (if pt L l 112 a = true then 1 else 0), cS st (if pt L l 112 a = true then a + 1 else a) (-1 : Int32) f) := e_takes (c := 112) h ha (by decide) _ f
    rw [if_neg c1, if_neg c1, if_pos (show zI 0 = (0 : Int32) from rfl), if_neg c1, t2, Option.bind_some]
    dsimp only
    by_cases c2 : pt L l 112 a = true
    · have hl := (pt_lt c2).1
      rw [if_pos c2, if_pos c2, if_neg (show ¬ zI 1 = (0 : Int32) by decide), if_pos c2]
      rcases hp : pn L l true (a + 1) with ⟨b, _ | u⟩
      · have r0 : F_Let_readNumber (0 : Int32) (2 : Int32) (cS st (a + 1) (-1 : Int32) f) = some (0, cS st b (-1 : Int32) f) := e_rn_n (w := 0) h (by omega) (by decide) true _ f hp
        rw [r0, Option.bind_some]
        dsimp only
        rw [if_pos rfl]
        exact pOK_no
      · have r0 : F_Let_readNumber (0 : Int32) (2 : Int32) (cS st (a + 1) (-1 : Int32) f) = some (1, cS st b (-1 : Int32) (upd f 0 (zI u))) := e_rn_s (w := 0) h (by omega) (by decide) true _ f hp
        have hb : b ≤ l := by have := (pn_le (L := L) (two := true) (show a + 1 ≤ l by omega)).2; rw [hp] at this; exact this
        rw [r0, Option.bind_some]
        dsimp only
        rw [if_neg (show ¬ (1 : Int32) = 0 by decide)]
        show pOK st _ (pb (pb (pn L l true b) _) _)
        rcases hp2 : pn L l true b with ⟨c, _ | v⟩
        · have r1 : F_Let_readNumber (1 : Int32) (2 : Int32) (cS st b (-1 : Int32) (upd f 0 (zI u))) = some (0, cS st c (-1 : Int32) (upd f 0 (zI u))) := e_rn_n (w := 1) h hb (by decide) true _ _ hp2
          rw [r1, Option.bind_some]
          dsimp only
          rw [if_pos rfl]
          exact pOK_no
        · have r1 : F_Let_readNumber (1 : Int32) (2 : Int32) (cS st b (-1 : Int32) (upd f 0 (zI u))) = some (1, cS st c (-1 : Int32) (upd (upd f 0 (zI u)) 1 (zI v))) := e_rn_s (w := 1) h hb (by decide) true _ _ hp2
          have hc : c ≤ l := by have := (pn_le (L := L) (two := true) hb).2; rw [hp2] at this; exact this
          rw [r1, Option.bind_some]
          dsimp only
          rw [if_neg (show ¬ (1 : Int32) = 0 by decide)]
          exact e_semi h hc (-1 : Int32) _ (-1, u, v, 0) rfl (by rw [upd_n (by decide), upd_e]) (by rw [upd_e]) (fun z => absurd (show (0 : Int) ≤ -1 from z) (by decide))
    · rw [if_neg c2, if_neg c2, if_pos (show zI 0 = (0 : Int32) from rfl), if_neg c2]
      exact pOK_no
end
section
/-! a statement read, as the reference does it -/
def mT (st : XS) (a : Nat) (f : Nat → Int32) : XS := (fun c => if c = 0 then (fun j => if j = 10 then zI (a : Int) else st.1 0 j) else if c = 11 then f else st.1 c, st.2)
theorem mT_self {st : XS} {a : Nat} (h : st.1 0 10 = zI (a : Int)) : st = mT st a (st.1 11) := by
  unfold mT
  refine Prod.ext ?_ rfl
  funext c
  dsimp only
  by_cases e : c = 0
  · subst e
    rw [if_pos rfl]
    funext j
    by_cases e2 : j = 10
    · subst e2; rw [if_pos rfl, h]
    · rw [if_neg e2]
  · rw [if_neg e]
    by_cases e3 : c = 11
    · subst e3; rw [if_pos rfl]
    · rw [if_neg e3]
theorem mT_at (st : XS) (a b : Nat) (f : Nat → Int32) : xs_I (mT st a f) 0 10 (zI (b : Int)) = mT st b f := by
  unfold mT xs_I
  refine Prod.ext ?_ rfl
  funext c
  dsimp only
  by_cases e : c = 0
  · subst e
    rw [if_pos rfl, if_pos rfl, if_pos rfl]
    funext j
    unfold upd
    by_cases e2 : j = 10
    · subst e2; rw [if_pos rfl, if_pos rfl]
    · simp [e2]
  · rw [if_neg e, if_neg e, if_neg e]
theorem mT_num (st : XS) (a : Nat) (f g : Nat → Int32) : xs_A (mT st a f) 11 g = mT st a g := by
  unfold mT xs_A
  refine Prod.ext ?_ rfl
  funext c
  dsimp only
  by_cases e : c = 11
  · subst e
    rw [if_pos rfl, if_neg (by decide), if_pos rfl]
  · rw [if_neg e, if_neg e, if_neg e]
theorem mT_10 (st : XS) (a : Nat) (f : Nat → Int32) : (mT st a f).1 0 10 = zI (a : Int) := rfl
theorem mT_8 (st : XS) (a : Nat) (f : Nat → Int32) : (mT st a f).1 0 8 = st.1 0 8 := rfl
theorem mT_9 (st : XS) (a : Nat) (f : Nat → Int32) : (mT st a f).1 9 = st.1 9 := rfl
theorem mT_11 (st : XS) (a : Nat) (f : Nat → Int32) : (mT st a f).1 11 = f := rfl
theorem mT_o (st : XS) (a : Nat) (f : Nat → Int32) {c : Nat} (h : c ≠ 0) (h2 : c ≠ 11) : (mT st a f).1 c = st.1 c := by
  unfold mT; dsimp only; rw [if_neg h, if_neg h2]
theorem mT_0 (st : XS) (a : Nat) (f : Nat → Int32) {j : Nat} (h : j ≠ 10) : (mT st a f).1 0 j = st.1 0 j := by
  unfold mT; dsimp only; rw [if_pos rfl, if_neg h]
def lM (st : XS) (L : Nat → Nat) (l : Nat) : Prop := l ≤ 96 ∧ st.1 0 8 = zI (l : Int) ∧ ∀ i, i < l → L i < 256 ∧ st.1 9 i = zI (L i : Int)
theorem e_mis {st : XS} {L : Nat → Nat} {l a c : Nat} (h : lM st L l) (ha : a ≤ l) (hc : c < 256) (f : Nat → Int32) : F_Mod_is (zI (c : Int)) (mT st a f) = some (zI (if pt L l c a = true then 1 else 0), mT st (if pt L l c a = true then a + 1 else a) f) := by
  obtain ⟨h1, h2, h3⟩ := h
  unfold F_Mod_is
  rw [mT_8, mT_10, mT_9, h2]
  by_cases hl : a < l
  · obtain ⟨g1, g2⟩ := h3 a hl
    rw [if_neg (by rw [zI_eq (zB_n (by omega)) (zB_n (by omega))]; omega), xo_rd_z (show a < 96 by omega) (by decide), Option.bind_some, g2]
    by_cases e : L a = c
    · have hp : pt L l c a = true := by unfold pt; simp [hl, e]
      rw [if_pos (by rw [e]), xo_nm_b, zI_suc, mT_at, if_pos hp, if_pos hp]; rfl
    · have hp : ¬ pt L l c a = true := by unfold pt; simp [e]
      rw [if_neg (by rw [zI_eq (zB_n (by omega)) (zB_n (by omega)), Int.ofNat_inj]; exact e), if_neg hp, if_neg hp]; rfl
  · have hp : ¬ pt L l c a = true := by unfold pt; simp [hl]
    have e : a = l := by omega
    rw [if_pos (by rw [e]), if_neg hp, if_neg hp]; rfl
theorem e_misDig {st : XS} {L : Nat → Nat} {l a : Nat} (h : lM st L l) (ha : a ≤ l) (f : Nat → Int32) : F_Mod_isDigit (mT st a f) = some (zI (if pd L l a = true then 1 else 0)) := by
  obtain ⟨h1, h2, h3⟩ := h
  unfold F_Mod_isDigit
  rw [mT_8, mT_10, mT_9, h2]
  by_cases hl : a < l
  · obtain ⟨g1, g2⟩ := h3 a hl
    have k1 : zI (L a : Int) < (48 : Int32) ↔ (L a : Int) < 48 := zi_lt (zB_n (by omega)) (by decide) _ _ rfl rfl
    have k2 : (57 : Int32) < zI (L a : Int) ↔ 57 < (L a : Int) := zi_lt (by decide) (zB_n (by omega)) _ _ rfl rfl
    rw [if_neg (zI_ge1 (by omega) hl), xo_rd_z (show a < 96 by omega) (by decide), Option.bind_some, Option.bind_some, g2]
    simp only [k1, k2]
    unfold pd
    rw [decide_eq_true hl, Bool.true_and]
    by_cases c1 : (L a : Int) < 48
    · rw [if_pos c1, if_neg (by simp; omega)]; rfl
    · rw [if_neg c1]
      by_cases c2 : 57 < (L a : Int)
      · rw [if_pos c2, if_neg (by simp; omega)]; rfl
      · rw [if_neg c2, if_pos (by simp; omega)]; rfl
  · have hp : ¬ pd L l a = true := by unfold pd; simp [hl]
    have e : a = l := by omega
    rw [if_pos (by rw [e]; exact zI_rfl _), if_neg hp]; rfl
theorem e_mnum88 {st : XS} {w : Nat} (hw : w < 3) (a : Nat) (f : Nat → Int32) (neg : Bool) (v : Int) : F_Mod_number_m88 (zI (w : Int)) (zI (if neg then 1 else 0)) (zI v) (mT st a f) = some (1, mT st a (upd f w (zI (if neg then -v else v)))) := by
  unfold F_Mod_number_m88
  rw [xo_ck_z hw (by decide), Option.bind_some, Option.bind_some, xo_nm_b, xo_nm_b, zI_cl (by omega), mT_11, mT_num, mT_num, zI_neg]
  cases neg with
  | true => rw [if_neg (show ¬ zI (if true = true then 1 else 0) = (0 : Int32) by decide)]; rfl
  | false => rw [if_pos (show zI (if false = true then 1 else 0) = (0 : Int32) from rfl)]; rfl
theorem e_mnum20 {st : XS} {L : Nat → Nat} {l a w : Nat} (h : lM st L l) (ha : a ≤ l) (hw : w < 3) (two : Bool) (neg : Bool) (f : Nat → Int32) : F_Mod_number_m20 (zI (w : Int)) (zI (if two then 1 else 0)) (zI (if neg then 1 else 0)) (mT st a f) = if pd L l a = true then (if (two && pd L l (a + 1)) = true then some (1, mT st (a + 2) (upd f w (zI (if neg then -(10 * ((L a : Int) - 48) + ((L (a + 1) : Int) - 48)) else (10 * ((L a : Int) - 48) + ((L (a + 1) : Int) - 48)))))) else some (1, mT st (a + 1) (upd f w (zI (if neg then -((L a : Int) - 48) else (L a : Int) - 48))))) else some (0, mT st a f) := by
  have hh := h
  obtain ⟨h1, h2, h3⟩ := h
  unfold F_Mod_number_m20
  rw [e_misDig hh ha, Option.bind_some]
  by_cases hd : pd L l a = true
  · obtain ⟨d1, d2, d3⟩ := pd_lt hd
    obtain ⟨g1, g2⟩ := h3 a d1
    have e48 : (48 : Int32) = zI 48 := rfl
    rw [if_pos hd, if_neg (show ¬ zI 1 = (0 : Int32) by decide), mT_10, xo_nm_b, zI_suc, mT_at, mT_9, xo_rd_z (show a < 96 by omega) (by decide), Option.bind_some, g2, e48, zI_sub, xo_nm_b, if_pos hd]
    cases two with
    | false =>
      rw [if_pos (show zI (if false = true then 1 else 0) = (0 : Int32) from rfl), e_mnum88 hw, Bool.false_and, if_neg (show ¬ (false = true) by decide)]
    | true =>
      rw [if_neg (show ¬ zI (if true = true then 1 else 0) = (0 : Int32) by decide), e_misDig hh (by omega), Option.bind_some, Bool.true_and]
      by_cases hd2 : pd L l (a + 1) = true
      · obtain ⟨d4, d5, d6⟩ := pd_lt hd2
        obtain ⟨g3, g4⟩ := h3 (a + 1) d4
        have e10 : (10 : Int32) = zI 10 := rfl
        rw [if_pos hd2, if_neg (show ¬ zI 1 = (0 : Int32) by decide), mT_10, xo_nm_b, zI_suc, mT_at, mT_9, xo_rd_z (show a + 1 < 96 by omega) (by decide), Option.bind_some, g4, e10, zI_mul, zI_add, zI_sub, xo_nm_b, e_mnum88 hw, if_pos hd2, show 10 * ((L a : Int) - 48) + (L (a + 1) : Int) - 48 = 10 * ((L a : Int) - 48) + ((L (a + 1) : Int) - 48) by omega]
      · rw [if_neg hd2, if_pos (show zI 0 = (0 : Int32) from rfl), e_mnum88 hw, if_neg hd2]
  · rw [if_neg hd, if_pos (show zI 0 = (0 : Int32) from rfl), if_neg hd]
theorem e_mNum {st : XS} {L : Nat → Nat} {l a w : Nat} (h : lM st L l) (ha : a ≤ l) (hw : w < 3) (two : Bool) (f : Nat → Int32) : F_Mod_number (zI (w : Int)) (zI (if two then 1 else 0)) (mT st a f) = match pn L l two a with
    | (b, none) => some (0, mT st b f)
    | (b, some v) => some (1, mT st b (upd f w (zI v))) := by
  unfold F_Mod_number
  have t1 : F_Mod_is (45 : Int32) (mT st a f) = some (zI (if pt L l 45 a = true then 1 else 0), mT st (if pt L l 45 a = true then a + 1 else a) f) := e_mis (c := 45) h ha (by decide) f
  have t2 : F_Mod_is (43 : Int32) (mT st a f) = some (zI (if pt L l 43 a = true then 1 else 0), mT st (if pt L l 43 a = true then a + 1 else a) f) := e_mis (c := 43) h ha (by decide) f
  rw [t1]
  unfold xo_bn
  rw [Option.bind_some]
  dsimp only
  unfold pn psn
  have fin : ∀ neg : Bool, a + 1 ≤ l → F_Mod_number_m20 (zI (w : Int)) (zI (if two then 1 else 0)) (zI (if neg then 1 else 0)) (mT st (a + 1) f) = match (if pd L l (a + 1) = true then if (two && pd L l (a + 2)) = true then (a + 3, some (if neg then -(10 * ((L (a + 1) : Int) - 48) + ((L (a + 2) : Int) - 48)) else (10 * ((L (a + 1) : Int) - 48) + ((L (a + 2) : Int) - 48)))) else (a + 2, some (if neg then -((L (a + 1) : Int) - 48) else ((L (a + 1) : Int) - 48))) else (a + 1, none) : Nat × Option Int) with
      | (b, none) => some (0, mT st b f)
      | (b, some v) => some (1, mT st b (upd f w (zI v))) := by
    intro neg hl
    rw [e_mnum20 h hl hw two neg f]
    by_cases c1 : pd L l (a + 1) = true
    · rw [if_pos c1, if_pos c1]
      by_cases c2 : (two && pd L l (a + 2)) = true
      · rw [if_pos c2, if_pos c2]
      · rw [if_neg c2, if_neg c2]
    · rw [if_neg c1, if_neg c1]
  by_cases c1 : pt L l 45 a = true
  · have hl := (pt_lt c1).1
    have := fin true (by omega)
    rw [if_pos rfl, if_pos rfl] at this
    rw [if_pos c1, if_pos c1, if_neg (show ¬ zI 1 = (0 : Int32) by decide), c1, Bool.true_or, if_pos rfl, if_pos rfl, if_pos rfl]
    exact this
  · have c1' : pt L l 45 a = false := by simpa using c1
    rw [if_neg c1, if_neg c1, if_pos (show zI 0 = (0 : Int32) from rfl), t2, Option.bind_some, c1', Bool.false_or]
    dsimp only
    by_cases c2 : pt L l 43 a = true
    · have hl := (pt_lt c2).1
      have := fin false (by omega)
      rw [if_neg (show ¬ (false = true) by decide), if_neg (show ¬ (false = true) by decide)] at this
      rw [if_pos c2, if_pos c2, if_neg (show ¬ zI 1 = (0 : Int32) by decide), if_pos c2, if_neg (show ¬ (false = true) by decide), if_neg (show ¬ (false = true) by decide)]
      exact this
    · rw [if_neg c2, if_neg c2, if_pos (show zI 0 = (0 : Int32) from rfl), if_neg c2]
theorem e_mn_n {st : XS} {L : Nat → Nat} {l a b w : Nat} (h : lM st L l) (ha : a ≤ l) (hw : w < 3) (two : Bool) (f : Nat → Int32) (hp : pn L l two a = (b, none)) : F_Mod_number (zI (w : Int)) (zI (if two then 1 else 0)) (mT st a f) = some (0, mT st b f) := by
  rw [e_mNum h ha hw, hp]
theorem e_mn_s {st : XS} {L : Nat → Nat} {l a b w : Nat} {v : Int} (h : lM st L l) (ha : a ≤ l) (hw : w < 3) (two : Bool) (f : Nat → Int32) (hp : pn L l two a = (b, some v)) : F_Mod_number (zI (w : Int)) (zI (if two then 1 else 0)) (mT st a f) = some (1, mT st b (upd f w (zI v))) := by
  rw [e_mNum h ha hw, hp]
end
section
/-! a statement told, as the reference does it -/
def mpS (x1 k0 : Int32) (t18 : XS) : Option (Int32 × XS) := if x1 = (0 : Int32) then some ((1 : Int32), t18) else (xo_rd (t18.1 11) 3 (0 : Int32)).bind fun v19 => if v19 = (0 : Int32) then (xo_rd (t18.1 11) 3 (1 : Int32)).bind fun v20 => if v20 = (0 : Int32) then some ((0 : Int32), t18) else F_Mod_statement_m239 k0 t18 else F_Mod_statement_m239 k0 t18
def mpP (x1 : Int32) (t31 : XS) : Option (Int32 × XS) := if x1 = (0 : Int32) then some ((1 : Int32), t31) else (xo_rd (t31.1 11) 3 (0 : Int32)).bind fun v32 => (F_Mod_within v32 (-20 : Int32) (20 : Int32)).bind fun v33 => if v33 = (0 : Int32) then some ((0 : Int32), t31) else (xo_rd (t31.1 11) 3 (1 : Int32)).bind fun v34 => (F_Mod_within v34 (-20 : Int32) (20 : Int32)).bind fun v35 => if v35 = (0 : Int32) then some ((0 : Int32), t31) else if (t31.1 0 5) = (8 : Int32) then some ((0 : Int32), t31) else (xo_rd (t31.1 11) 3 (0 : Int32)).bind fun v36 => (xo_ck 8 (t31.1 0 5)).bind fun _ => xo_nm (xs_A t31 6 (upd (t31.1 6) ((t31.1 0 5)).toNatClampNeg v36)) fun t37 => xo_nm (xs_I t37 0 5 ((t37.1 0 5) + (1 : Int32))) fun t38 => (xo_rd (t38.1 11) 3 (1 : Int32)).bind fun v39 => (xo_ck 8 (t37.1 0 5)).bind fun _ => xo_nm (xs_A t38 7 (upd (t38.1 7) ((t37.1 0 5)).toNatClampNeg v39)) fun t40 => some ((1 : Int32), t40)
def mOK (st : XS) (x1 : Int32) (x : Option (Int32 × XS)) (y : Nat × Option (Int × Int × Int × Int)) : Prop := (y.2 = none ∧ ∃ f', x = some ((-1 : Int32), mT st y.1 f')) ∨ ∃ r f', y.2 = some r ∧ f' 0 = zI r.2.1 ∧ f' 1 = zI r.2.2.1 ∧ (0 ≤ r.1 → f' 2 = zI r.2.2.2) ∧ x = (if r.1 < 0 then mpP x1 (mT st y.1 f') else mpS x1 (zI r.1) (mT st y.1 f'))
theorem mOK_no {st : XS} {x1 : Int32} {b : Nat} {f : Nat → Int32} : mOK st x1 (some ((-1 : Int32), mT st b f)) (b, none) := Or.inl ⟨rfl, f, rfl⟩
theorem e_mk {st : XS} {L : Nat → Nat} {l a : Nat} (h : lM st L l) (ha : a ≤ l) (x1 : Int32) (f : Nat → Int32) : mOK st x1 (if zI ((l : Nat) : Int) ≤ zI (a : Int) then F_Mod_statement_m168 x1 (mT st a f) else (xo_rd (st.1 9) 96 (zI (a : Int))).bind fun v25 => if v25 ≤ (0 : Int32) then F_Mod_statement_m168 x1 (mT st a f) else (xo_rd (st.1 9) 96 (zI (a : Int))).bind fun v26 => (F_Str_indexOf1 v26).bind fun v27 => F_Mod_statement_m169 x1 v27 (mT st a f)) (if pk L l a = true then pb (pn L l false (a + 1)) fun b u => pb (pn L l false b) fun c v => pb (pn L l true c) fun d w => (d, some (kx (L a), u, v, w)) else (a, none)) := by
  have hno : mOK st x1 (F_Mod_statement_m168 x1 (mT st a f)) (a, none) := by
    unfold F_Mod_statement_m168 F_Mod_statement_m169
    rw [if_neg (show ¬ (0 : Int32) ≤ (-1 : Int32) by decide)]
    exact mOK_no
  have hh := h
  obtain ⟨h1, h2, h3⟩ := h
  by_cases hl : a < l
  · obtain ⟨g1, g2⟩ := h3 a hl
    have hb := kx_b (L a)
    rw [if_neg (zI_ge1 (by omega) hl), xo_rd_z (show a < 96 by omega) (by decide), Option.bind_some, Option.bind_some, g2, e_ix _ g1, Option.bind_some]
    have k1 : zI (L a : Int) ≤ (0 : Int32) ↔ (L a : Int) ≤ 0 := zi_le (zB_n (by omega)) (by decide) _ _ rfl rfl
    simp only [k1]
    have hk : pk L l a = decide (0 ≤ kx (L a)) := by unfold pk; rw [decide_eq_true hl, Bool.true_and]
    rw [hk]
    by_cases c0 : (L a : Int) ≤ 0
    · have e0 : L a = 0 := by omega
      rw [if_pos c0, if_neg (by rw [e0]; decide)]
      exact hno
    · rw [if_neg c0]
      by_cases c : 0 ≤ kx (L a)
      · rw [decide_eq_true c, if_pos rfl]
        unfold F_Mod_statement_m169
        rw [if_pos ((zi_le (by decide) ⟨by omega, by omega⟩ (0 : Int32) _ rfl rfl).mpr c), mT_10, xo_nm_b, zI_suc, mT_at]
        rcases hp : pn L l false (a + 1) with ⟨b, _ | u⟩
        · have r0 : F_Mod_number (0 : Int32) (0 : Int32) (mT st (a + 1) f) = some (0, mT st b f) := e_mn_n (w := 0) hh (by omega) (by decide) false f hp
          rw [r0]
          unfold xo_bn
          rw [Option.bind_some]
          dsimp only
          rw [if_pos rfl]
          exact mOK_no
        · have r0 : F_Mod_number (0 : Int32) (0 : Int32) (mT st (a + 1) f) = some (1, mT st b (upd f 0 (zI u))) := e_mn_s (w := 0) hh (by omega) (by decide) false f hp
          have hb : b ≤ l := by have := (pn_le (L := L) (two := false) (show a + 1 ≤ l by omega)).2; rw [hp] at this; exact this
          rw [r0]
          unfold xo_bn
          rw [Option.bind_some]
          dsimp only
          rw [if_neg (show ¬ (1 : Int32) = 0 by decide)]
          show mOK st x1 _ (pb (pn L l false b) _)
          rcases hp2 : pn L l false b with ⟨c, _ | v⟩
          · have r1 : F_Mod_number (1 : Int32) (0 : Int32) (mT st b (upd f 0 (zI u))) = some (0, mT st c (upd f 0 (zI u))) := e_mn_n (w := 1) hh hb (by decide) false _ hp2
            rw [r1, Option.bind_some]
            dsimp only
            rw [if_pos rfl]
            exact mOK_no
          · have r1 : F_Mod_number (1 : Int32) (0 : Int32) (mT st b (upd f 0 (zI u))) = some (1, mT st c (upd (upd f 0 (zI u)) 1 (zI v))) := e_mn_s (w := 1) hh hb (by decide) false _ hp2
            have hc : c ≤ l := by have := (pn_le (L := L) (two := false) hb).2; rw [hp2] at this; exact this
            rw [r1, Option.bind_some]
            dsimp only
            rw [if_neg (show ¬ (1 : Int32) = 0 by decide)]
            show mOK st x1 _ (pb (pn L l true c) _)
            rcases hp3 : pn L l true c with ⟨d, _ | w⟩
            · have r2 : F_Mod_number (2 : Int32) (1 : Int32) (mT st c (upd (upd f 0 (zI u)) 1 (zI v))) = some (0, mT st d (upd (upd f 0 (zI u)) 1 (zI v))) := e_mn_n (w := 2) hh hc (by decide) true _ hp3
              rw [r2, Option.bind_some]
              dsimp only
              rw [if_pos rfl]
              exact mOK_no
            · have r2 : F_Mod_number (2 : Int32) (1 : Int32) (mT st c (upd (upd f 0 (zI u)) 1 (zI v))) = some (1, mT st d (upd (upd (upd f 0 (zI u)) 1 (zI v)) 2 (zI w))) := e_mn_s (w := 2) hh hc (by decide) true _ hp3
              rw [r2, Option.bind_some]
              dsimp only
              rw [if_neg (show ¬ (1 : Int32) = 0 by decide)]
              refine Or.inr ⟨(kx (L a), u, v, w), upd (upd (upd f 0 (zI u)) 1 (zI v)) 2 (zI w), rfl, by rw [upd_n (by decide), upd_n (by decide), upd_e], by rw [upd_n (by decide), upd_e], fun _ => by rw [upd_e], ?_⟩
              rw [if_neg (show ¬ kx (L a) < 0 by omega)]
              rfl
      · rw [decide_eq_false c, if_neg (by decide)]
        unfold F_Mod_statement_m169
        rw [if_neg (fun z => c ((zi_le (by decide) ⟨by omega, by omega⟩ (0 : Int32) _ rfl rfl).mp z))]
        exact mOK_no
  · have hp : ¬ pk L l a = true := by unfold pk; simp [hl]
    have e : a = l := by omega
    rw [if_pos (by rw [e]; exact zI_rfl _), if_neg hp]
    exact hno
theorem e_mstmt {st : XS} {L : Nat → Nat} {l a : Nat} (h : lM st L l) (ha : a ≤ l) (x1 : Int32) (f : Nat → Int32) : mOK st x1 (F_Mod_statement x1 (mT st a f)) (ps L l a) := by
  unfold F_Mod_statement ps
  have t1 : F_Mod_is (112 : Int32) (mT st a f) = some (zI (if pt L l 112 a = true then 1 else 0), mT st (if pt L l 112 a = true then a + 1 else a) f) := e_mis (c := 112) h ha (by decide) f
  have t2 : F_Mod_is (115 : Int32) (mT st a f) = some (zI (if pt L l 115 a = true then 1 else 0), mT st (if pt L l 115 a = true then a + 1 else a) f) := e_mis (c := 115) h ha (by decide) f
  rw [t1]
  unfold xo_bn
  rw [Option.bind_some]
  dsimp only
  by_cases c1 : pt L l 112 a = true
  · have hl := (pt_lt c1).1
    have hc2 : ¬ pt L l 115 a = true := fun z => by
      have h1 := (pt_lt c1).2
      have h2 := (pt_lt z).2
      omega
    rw [if_pos c1, if_pos c1, if_neg (show ¬ zI 1 = (0 : Int32) by decide), if_neg hc2, if_pos c1]
    rcases hp : pn L l true (a + 1) with ⟨b, _ | u⟩
    · have r0 : F_Mod_number (0 : Int32) (1 : Int32) (mT st (a + 1) f) = some (0, mT st b f) := e_mn_n (w := 0) h (by omega) (by decide) true f hp
      rw [r0, Option.bind_some]
      dsimp only
      rw [if_pos rfl]
      exact mOK_no
    · have r0 : F_Mod_number (0 : Int32) (1 : Int32) (mT st (a + 1) f) = some (1, mT st b (upd f 0 (zI u))) := e_mn_s (w := 0) h (by omega) (by decide) true f hp
      have hb : b ≤ l := by have := (pn_le (L := L) (two := true) (show a + 1 ≤ l by omega)).2; rw [hp] at this; exact this
      rw [r0, Option.bind_some]
      dsimp only
      rw [if_neg (show ¬ (1 : Int32) = 0 by decide)]
      show mOK st x1 _ (pb (pn L l true b) _)
      rcases hp2 : pn L l true b with ⟨c, _ | v⟩
      · have r1 : F_Mod_number (1 : Int32) (1 : Int32) (mT st b (upd f 0 (zI u))) = some (0, mT st c (upd f 0 (zI u))) := e_mn_n (w := 1) h hb (by decide) true _ hp2
        rw [r1, Option.bind_some]
        dsimp only
        rw [if_pos rfl]
        exact mOK_no
      · have r1 : F_Mod_number (1 : Int32) (1 : Int32) (mT st b (upd f 0 (zI u))) = some (1, mT st c (upd (upd f 0 (zI u)) 1 (zI v))) := e_mn_s (w := 1) h hb (by decide) true _ hp2
        rw [r1, Option.bind_some]
        dsimp only
        rw [if_neg (show ¬ (1 : Int32) = 0 by decide)]
        refine Or.inr ⟨(-1, u, v, 0), upd (upd f 0 (zI u)) 1 (zI v), rfl, by rw [upd_n (by decide), upd_e], by rw [upd_e], fun z => absurd (show (0 : Int) ≤ -1 from z) (by decide), ?_⟩
        rw [if_pos (show (-1 : Int) < 0 by decide)]
        rfl
  · rw [if_neg c1, if_neg c1, if_pos (show zI 0 = (0 : Int32) from rfl), t2, Option.bind_some]
    dsimp only
    by_cases c2 : pt L l 115 a = true
    · have hl := (pt_lt c2).1
      rw [if_pos c2, if_pos c2, if_neg (show ¬ zI 1 = (0 : Int32) by decide), if_pos c2, mT_8, mT_10, mT_9, h.2.1]
      exact e_mk h (by omega) x1 f
    · rw [if_neg c2, if_neg c2, if_pos (show zI 0 = (0 : Int32) from rfl), if_neg c2, if_neg c1]
      exact mOK_no
end
section
/-! statements told: a street or a plot more, on either side -/
def dD (n : Nat) (A B C : Nat → Int) (Kd : Nat → Nat) (P : Nat) (X Y : Nat → Int) : Prop := n ≤ 6 ∧ P ≤ 8 ∧ gB A B C n ∧ gz_ok A B n ∧ (∀ s, s < n → Kd s < 6) ∧ ∀ p, p < P → ab 20 (X p) ∧ ab 20 (Y p)
def dM (st : XS) (n : Nat) (A B C : Nat → Int) (Kd : Nat → Nat) (P : Nat) (X Y : Nat → Int) : Prop := st.1 0 0 = zI (n : Int) ∧ st.1 0 5 = zI (P : Int) ∧ (∀ s, s < n → st.1 1 s = zI (Kd s : Int) ∧ st.1 2 s = zI (A s) ∧ st.1 3 s = zI (B s) ∧ st.1 4 s = zI (C s)) ∧ ∀ p, p < P → st.1 6 p = zI (X p) ∧ st.1 7 p = zI (Y p)
def dC (st : XS) (n : Nat) (A B C : Nat → Int) (Kd : Nat → Nat) (P : Nat) (X Y : Nat → Int) : Prop := st.1 8 4 = zI (n : Int) ∧ st.1 8 7 = zI (P : Int) ∧ (∀ s, s < n → st.1 9 s = zI (Kd s : Int) ∧ st.1 10 s = zI (A s) ∧ st.1 11 s = zI (B s) ∧ st.1 12 s = zI (C s)) ∧ ∀ p, p < P → st.1 13 p = zI (X p) ∧ st.1 14 p = zI (Y p)
def exK (Kd : Nat → Nat) (n k s : Nat) : Nat := if s = n then k else Kd s
def mV (st t : XS) : Prop := t.2 = st.2 ∧ (∀ k, k = 5 ∨ 8 ≤ k → t.1 k = st.1 k) ∧ ∀ j, j ≠ 0 → j ≠ 5 → t.1 0 j = st.1 0 j
def cV (st t : XS) : Prop := t.2 = st.2 ∧ ∀ k, k < 8 ∨ 14 < k → t.1 k = st.1 k
def gdP (u v : Int) (P : Nat) : Prop := ab 20 u ∧ ab 20 v ∧ P < 8
def gdS (u v : Int) (n : Nat) (A B : Nat → Int) : Prop := ¬ (u = 0 ∧ v = 0) ∧ (∀ t, t < n → gz_t A B u v t ≠ 0) ∧ n < 6
theorem dD_P {n P : Nat} {A B C X Y : Nat → Int} {Kd : Nat → Nat} {u v : Int} (h : dD n A B C Kd P X Y) (g : gdP u v P) : dD n A B C Kd (P + 1) (ex X P u) (ex Y P v) := by
  obtain ⟨h1, h2, h3, h4, h5, h6⟩ := h
  obtain ⟨g1, g2, g3⟩ := g
  refine ⟨h1, by omega, h3, h4, h5, fun p hp => ?_⟩
  by_cases e : p = P
  · subst e; rw [ex_n, ex_n]; exact ⟨g1, g2⟩
  · rw [ex_o u (by omega), ex_o v (by omega)]; exact h6 p (by omega)
theorem dD_S {n P : Nat} {A B C X Y : Nat → Int} {Kd : Nat → Nat} {u v w : Int} {k : Nat} (h : dD n A B C Kd P X Y) (g : gdS u v n A B) (hu : ab 9 u) (hv : ab 9 v) (hw : ab 99 w) (hk : k < 6) : dD (n + 1) (ex A n u) (ex B n v) (ex C n w) (exK Kd n k) P X Y := by
  obtain ⟨h1, h2, h3, h4, h5, h6⟩ := h
  obtain ⟨g1, g2, g3⟩ := g
  refine ⟨by omega, h2, ex_gB h3 hu hv hw, ex_ok h4 (by omega) g2, fun s hs => ?_, h6⟩
  unfold exK
  split
  · exact hk
  · exact h5 s (by omega)
theorem e_mpP {st : XS} {n P : Nat} {A B C X Y : Nat → Int} {Kd : Nat → Nat} {u v : Int} (h : dM st n A B C Kd P X Y) (hD : dD n A B C Kd P X Y) (hu : ab 99 u) (hv : ab 99 v) (h0 : st.1 11 0 = zI u) (h1 : st.1 11 1 = zI v) : (gdP u v P → ∃ t, mpP (1 : Int32) st = some ((1 : Int32), t) ∧ mV st t ∧ dM t n A B C Kd (P + 1) (ex X P u) (ex Y P v)) ∧ (¬ gdP u v P → mpP (1 : Int32) st = some ((0 : Int32), st)) := by
  obtain ⟨d1, d2, d3, d4⟩ := h
  have hP := hD.2.1
  have r0 : ∀ f : Nat → Int32, xo_rd f 3 (0 : Int32) = some (f 0) := fun f => xo_rd_z (k := 0) (by decide) (by decide)
  have r1 : ∀ f : Nat → Int32, xo_rd f 3 (1 : Int32) = some (f 1) := fun f => xo_rd_z (k := 1) (by decide) (by decide)
  have e20 : (-20 : Int32) = zI (-20) := rfl
  have f20 : (20 : Int32) = zI 20 := rfl
  have w0 : F_Mod_within (zI u) (-20 : Int32) (20 : Int32) = some (zI (if -20 ≤ u ∧ u ≤ 20 then 1 else 0)) := by
    rw [e20, f20]
    exact e_mwithin (ab_B hu (by decide)) (by decide) (by decide)
  have w1 : F_Mod_within (zI v) (-20 : Int32) (20 : Int32) = some (zI (if -20 ≤ v ∧ v ≤ 20 then 1 else 0)) := by
    rw [e20, f20]
    exact e_mwithin (ab_B hv (by decide)) (by decide) (by decide)
  have k8 : zI (P : Int) = (8 : Int32) ↔ (P : Int) = 8 := zi_eq (zB_n (by omega)) (by decide) _ _ rfl rfl
  unfold mpP gdP ab
  rw [if_neg (show ¬ (1 : Int32) = 0 by decide), r0, Option.bind_some, h0, w0, Option.bind_some]
  by_cases c0 : -20 ≤ u ∧ u ≤ 20
  · rw [if_pos c0, if_neg (show ¬ zI 1 = (0 : Int32) by decide), r1, Option.bind_some, h1, w1, Option.bind_some]
    by_cases c1 : -20 ≤ v ∧ v ≤ 20
    · rw [if_pos c1, if_neg (show ¬ zI 1 = (0 : Int32) by decide), d2]
      by_cases c2 : P < 8
      · refine ⟨fun _ => ?_, fun z => absurd ⟨by omega, by omega, c2⟩ z⟩
        rw [if_neg (fun z => by have := k8.mp z; omega), Option.bind_some, xo_ck_z c2 (by decide), Option.bind_some, xo_nm_b, zI_cl (by omega)]
        have e5 : (xs_A st 6 (upd (st.1 6) P (zI u))).1 0 5 = zI (P : Int) := by rw [xs_A_n (by decide), d2]
        rw [e5, zI_suc, xo_nm_b, r1, Option.bind_some]
        have e6 : (xs_I (xs_A st 6 (upd (st.1 6) P (zI u))) 0 5 (zI ((P + 1 : Nat) : Int))).1 11 1 = zI v := by simp [xs_I, xs_A, h1]
        have e7 : (xs_I (xs_A st 6 (upd (st.1 6) P (zI u))) 0 5 (zI ((P + 1 : Nat) : Int))).1 7 = st.1 7 := by simp [xs_I, xs_A]
        rw [e6, xo_ck_z c2 (by decide), Option.bind_some, xo_nm_b, zI_cl (by omega), e7]
        refine ⟨_, rfl, ⟨rfl, fun k hk => ?_, fun j hj hj2 => ?_⟩, ?_, ?_, fun s hs => ?_, fun p hp => ?_⟩
        · have k0 : ¬ k = 0 := by omega
          have k6 : ¬ k = 6 := by omega
          have k7 : ¬ k = 7 := by omega
          simp [xs_I, xs_A, k0, k6, k7]
        · simp [xs_I, xs_A, upd, hj2]
        · simpa [xs_I, xs_A, upd] using d1
        · simp [xs_I, xs_A, upd]
        · simpa [xs_I, xs_A] using d3 s hs
        · by_cases e : p = P
          · subst e
            rw [ex_n, ex_n]
            simp [xs_I, xs_A, upd]
          · rw [ex_o u (by omega), ex_o v (by omega)]
            simpa [xs_I, xs_A, upd, e] using d4 p (by omega)
      · refine ⟨fun z => absurd z.2.2 c2, fun _ => ?_⟩
        rw [if_pos (k8.mpr (by omega))]
    · refine ⟨fun z => absurd z.2.1 (by omega), fun _ => ?_⟩
      rw [if_neg c1, if_pos (show zI 0 = (0 : Int32) from rfl)]
  · refine ⟨fun z => absurd z.1 (by omega), fun _ => ?_⟩
    rw [if_neg c0, if_pos (show zI 0 = (0 : Int32) from rfl)]
theorem mL_d {st : XS} {n P : Nat} {A B C X Y : Nat → Int} {Kd : Nat → Nat} (h : dM st n A B C Kd P X Y) (hD : dD n A B C Kd P X Y) : mL st n A B C := ⟨by have := hD.1; omega, fun s hs => (h.2.2.1 s hs).2, hD.2.2.1⟩
theorem e_mpS {st : XS} {n P : Nat} {A B C X Y : Nat → Int} {Kd : Nat → Nat} {u v w : Int} {k : Nat} (h : dM st n A B C Kd P X Y) (hD : dD n A B C Kd P X Y) (hu : ab 9 u) (hv : ab 9 v) (h0 : st.1 11 0 = zI u) (h1 : st.1 11 1 = zI v) (h2 : st.1 11 2 = zI w) : (gdS u v n A B → ∃ t, mpS (1 : Int32) (zI (k : Int)) st = some ((1 : Int32), t) ∧ mV st t ∧ dM t (n + 1) (ex A n u) (ex B n v) (ex C n w) (exK Kd n k) P X Y) ∧ (¬ gdS u v n A B → mpS (1 : Int32) (zI (k : Int)) st = some ((0 : Int32), st)) := by
  have hmL := mL_d h hD
  obtain ⟨d1, d2, d3, d4⟩ := h
  have hn6 := hD.1
  have r0 : ∀ f : Nat → Int32, xo_rd f 3 (0 : Int32) = some (f 0) := fun f => xo_rd_z (k := 0) (by decide) (by decide)
  have r1 : ∀ f : Nat → Int32, xo_rd f 3 (1 : Int32) = some (f 1) := fun f => xo_rd_z (k := 1) (by decide) (by decide)
  have r2 : ∀ f : Nat → Int32, xo_rd f 3 (2 : Int32) = some (f 2) := fun f => xo_rd_z (k := 2) (by decide) (by decide)
  have ku : zI u = (0 : Int32) ↔ u = 0 := zi_eq (ab_B hu (by decide)) (by decide) _ _ rfl rfl
  have kv : zI v = (0 : Int32) ↔ v = 0 := zi_eq (ab_B hv (by decide)) (by decide) _ _ rfl rfl
  have k6 : zI (n : Int) = (6 : Int32) ↔ (n : Int) = 6 := zi_eq (zB_n (by omega)) (by decide) _ _ rfl rfl
  have main : ¬ (u = 0 ∧ v = 0) → (gdS u v n A B → ∃ t, F_Mod_statement_m239 (zI (k : Int)) st = some ((1 : Int32), t) ∧ mV st t ∧ dM t (n + 1) (ex A n u) (ex B n v) (ex C n w) (exK Kd n k) P X Y) ∧ (¬ gdS u v n A B → F_Mod_statement_m239 (zI (k : Int)) st = some ((0 : Int32), st)) := by
    intro huv
    unfold F_Mod_statement_m239
    rw [r0, Option.bind_some, r1, Option.bind_some, h0, h1, d1, e_misDir hmL hu hv, Option.bind_some]
    by_cases cd : an (fun s => decide (gz_t A B u v s = 0)) n = true
    · refine ⟨fun z => ?_, fun _ => ?_⟩
      · obtain ⟨s, hs, hz⟩ := an_iff.mp cd
        exact absurd (by simpa using hz) (z.2.1 s hs)
      · rw [if_pos cd, if_neg (show ¬ zI 1 = (0 : Int32) by decide)]
    · rw [if_neg cd, if_pos (show zI 0 = (0 : Int32) from rfl)]
      by_cases c6 : n < 6
      · refine ⟨fun _ => ?_, fun z => absurd ⟨huv, an_dir cd, c6⟩ z⟩
        rw [if_neg (fun z => by have := k6.mp z; omega), xo_ck_z (show n < 7 by omega) (by decide), Option.bind_some, xo_nm_b, zI_cl (by omega)]
        have a0 : ∀ f : Nat → Int32, (xs_A st 1 f).1 0 0 = zI (n : Int) := fun f => by rw [xs_A_n (by decide), d1]
        have a11 : ∀ f : Nat → Int32, (xs_A st 1 f).1 11 0 = zI u := fun f => by rw [xs_A_n (by decide), h0]
        have a2 : ∀ f : Nat → Int32, (xs_A st 1 f).1 2 = st.1 2 := fun f => xs_A_n (by decide)
        rw [r0, Option.bind_some, a11, a0, xo_ck_z (show n < 7 by omega) (by decide), Option.bind_some, xo_nm_b, zI_cl (by omega), a2]
        have b0 : ∀ f g : Nat → Int32, (xs_A (xs_A st 1 f) 2 g).1 0 0 = zI (n : Int) := fun f g => by rw [xs_A_n (by decide), a0]
        have b11 : ∀ f g : Nat → Int32, (xs_A (xs_A st 1 f) 2 g).1 11 1 = zI v := fun f g => by rw [xs_A_n (by decide), xs_A_n (by decide), h1]
        have b3 : ∀ f g : Nat → Int32, (xs_A (xs_A st 1 f) 2 g).1 3 = st.1 3 := fun f g => by rw [xs_A_n (by decide), xs_A_n (by decide)]
        rw [r1, Option.bind_some, b11, b0, xo_ck_z (show n < 7 by omega) (by decide), Option.bind_some, xo_nm_b, zI_cl (by omega), b3]
        have c0 : ∀ f g e : Nat → Int32, (xs_A (xs_A (xs_A st 1 f) 2 g) 3 e).1 0 0 = zI (n : Int) := fun f g e => by rw [xs_A_n (by decide), b0]
        rw [c0, zI_suc, xo_nm_b]
        have e11 : ∀ f g e : Nat → Int32, (xs_I (xs_A (xs_A (xs_A st 1 f) 2 g) 3 e) 0 0 (zI ((n + 1 : Nat) : Int))).1 11 2 = zI w := fun f g e => by simp [xs_I, xs_A, h2]
        have e4 : ∀ f g e : Nat → Int32, (xs_I (xs_A (xs_A (xs_A st 1 f) 2 g) 3 e) 0 0 (zI ((n + 1 : Nat) : Int))).1 4 = st.1 4 := fun f g e => by simp [xs_I, xs_A]
        rw [r2, Option.bind_some, e11, xo_ck_z (show n < 7 by omega) (by decide), Option.bind_some, xo_nm_b, zI_cl (by omega), e4]
        refine ⟨_, rfl, ⟨rfl, fun j hj => ?_, fun j hj hj2 => ?_⟩, ?_, ?_, fun s hs => ?_, fun p hp => ?_⟩
        · have j0 : ¬ j = 0 := by omega
          have j1 : ¬ j = 1 := by omega
          have j2 : ¬ j = 2 := by omega
          have j3 : ¬ j = 3 := by omega
          have j4 : ¬ j = 4 := by omega
          simp [xs_I, xs_A, j0, j1, j2, j3, j4]
        · simp [xs_I, xs_A, upd, hj]
        · simp [xs_I, xs_A, upd]
        · simpa [xs_I, xs_A, upd] using d2
        · by_cases e : s = n
          · subst e
            rw [ex_n, ex_n, ex_n]
            simp [xs_I, xs_A, upd, exK]
          · rw [ex_o u (by omega), ex_o v (by omega), ex_o w (by omega)]
            simpa [xs_I, xs_A, upd, e, exK] using d3 s (by omega)
        · simpa [xs_I, xs_A, upd] using d4 p hp
      · refine ⟨fun z => absurd z.2.2 c6, fun _ => ?_⟩
        rw [if_pos (k6.mpr (by omega))]
  unfold mpS
  rw [if_neg (show ¬ (1 : Int32) = 0 by decide), r0, Option.bind_some, h0]
  simp only [ku]
  by_cases cu : u = 0
  · rw [if_pos cu, r1, Option.bind_some, h1]
    simp only [kv]
    by_cases cv : v = 0
    · refine ⟨fun z => absurd ⟨cu, cv⟩ z.1, fun _ => ?_⟩
      rw [if_pos cv]
    · rw [if_neg cv]
      exact main (fun z => cv z.2)
  · rw [if_neg cu]
    exact main (fun z => cu z.1)
end
section
/-! a statement told, as the class does it -/
theorem e_hasDirD {st : XS} {n P : Nat} {A B C X Y : Nat → Int} {Kd : Nat → Nat} (h : dC st n A B C Kd P X Y) (hD : dD n A B C Kd P X Y) {p q : Int} (hp : ab 9 p) (hq : ab 9 q) : F_Tow_hasDirection (zI p) (zI q) st = some (zI (if an (fun s => decide (gz_t A B p q s = 0)) n = true then 1 else 0)) := by
  obtain ⟨d1, d2, d3, d4⟩ := h
  have h6 := hD.1
  unfold F_Tow_hasDirection
  rw [lp_find (fun s => decide (gz_t A B p q s = 0)) (.inl ()) (.inr ()) n (by omega) (fun k hk => ?_) ?_]
  · rw [Option.bind_some]
    split <;> rfl
  · unfold F_Tow_hasDirection_b2
    rw [d1, if_pos (zI_rfl _)]
  · unfold F_Tow_hasDirection_b2 F_Tow_turn_v1
    obtain ⟨g1, g2, g3, g4⟩ := d3 k hk
    rw [d1, if_neg (zI_ge1 (by omega) hk), xo_rd_z (show k < 6 by omega) (by decide), Option.bind_some, xo_rd_z (show k < 6 by omega) (by decide), Option.bind_some, g2, g3, zI_mul, zI_mul, zI_sub, Option.bind_some, xo_nm_b, zI_suc, zI_0]
    have e : p * B k - q * A k = gz_t A B p q k := rfl
    rw [e]
    exact cnt_if (by rw [zI_eq (ab_B (gt_ab hD.2.2.1 hp hq hk) (by decide)) (by decide), decide_eq_true_eq]) _ _
theorem abs_le20 {u : Int} (hu : ab 99 u) : (((if (0 : Int32) ≤ zI u then zI u else (0 : Int32) - zI u) ≤ (20 : Int32)) ↔ ab 20 u) ∧ (((20 : Int32) < (if (0 : Int32) ≤ zI u then zI u else (0 : Int32) - zI u)) ↔ ¬ ab 20 u) := by
  have hB := ab_B hu (by decide)
  have e1 : (if (0 : Int32) ≤ zI u then zI u else (0 : Int32) - zI u) = zI ((u.natAbs : Nat) : Int) := by
    rw [zI_0]
    by_cases h : 0 ≤ u
    · rw [if_pos ((zI_le (by decide) hB).mpr h), show ((u.natAbs : Nat) : Int) = u by omega]
    · rw [if_neg (fun z => h ((zI_le (by decide) hB).mp z)), zI_sub, show ((u.natAbs : Nat) : Int) = 0 - u by omega]
  rw [e1]
  unfold ab at *
  rw [show (20 : Int32) = zI 20 from rfl, zI_le (zB_n (by omega)) (by decide), zI_lt (by decide) (zB_n (by omega))]
  omega
theorem e_cpP {st : XS} {n P : Nat} {A B C X Y : Nat → Int} {Kd : Nat → Nat} {u v : Int} (h : dC st n A B C Kd P X Y) (hD : dD n A B C Kd P X Y) (hu : ab 99 u) (hv : ab 99 v) : (gdP u v P → ∃ t, F_Tow_putPlot (zI u) (zI v) st = some ((1 : Int32), t) ∧ cV st t ∧ dC t n A B C Kd (P + 1) (ex X P u) (ex Y P v)) ∧ (¬ gdP u v P → F_Tow_putPlot (zI u) (zI v) st = some ((0 : Int32), st)) := by
  obtain ⟨d1, d2, d3, d4⟩ := h
  have hP := hD.2.1
  have k8 : zI (P : Int) < (8 : Int32) ↔ (P : Int) < 8 := zi_lt (zB_n (by omega)) (by decide) _ _ rfl rfl
  unfold F_Tow_putPlot F_Tow_putPlot_m18 F_Tow_putPlot_m23 gdP
  by_cases c0 : ab 20 u
  · rw [if_neg (fun z => (abs_le20 hu).2.mp z c0)]
    by_cases c1 : ab 20 v
    · rw [if_pos ((abs_le20 hv).1.mpr c1), if_pos rfl, d2]
      simp only [k8]
      by_cases c2 : P < 8
      · refine ⟨fun _ => ?_, fun z => absurd ⟨c0, c1, c2⟩ z⟩
        rw [if_pos (show (P : Int) < 8 by omega), xo_ck_z c2 (by decide), Option.bind_some, xo_nm_b, zI_cl (by omega)]
        have e5 : ∀ f : Nat → Int32, (xs_A st 13 f).1 8 7 = zI (P : Int) := fun f => by rw [xs_A_n (by decide), d2]
        have e6 : ∀ f g : Nat → Int32, (xs_A (xs_A st 13 f) 14 g).1 8 7 = zI (P : Int) := fun f g => by rw [xs_A_n (by decide), e5]
        have e7 : ∀ f : Nat → Int32, (xs_A st 13 f).1 14 = st.1 14 := fun f => xs_A_n (by decide)
        rw [e5, xo_ck_z c2 (by decide), Option.bind_some, xo_nm_b, zI_cl (by omega), e6, zI_suc, xo_nm_b, e7]
        refine ⟨_, rfl, ⟨rfl, fun k hk => ?_⟩, ?_, ?_, fun s hs => ?_, fun p hp => ?_⟩
        · have k0 : ¬ k = 8 := by omega
          have k6 : ¬ k = 13 := by omega
          have k7 : ¬ k = 14 := by omega
          simp [xs_I, xs_A, k0, k6, k7]
        · simpa [xs_I, xs_A, upd] using d1
        · simp [xs_I, xs_A, upd]
        · simpa [xs_I, xs_A] using d3 s hs
        · by_cases e : p = P
          · subst e
            rw [ex_n, ex_n]
            simp [xs_I, xs_A, upd]
          · rw [ex_o u (by omega), ex_o v (by omega)]
            simpa [xs_I, xs_A, upd, e] using d4 p (by omega)
      · refine ⟨fun z => absurd z.2.2 c2, fun _ => ?_⟩
        rw [if_neg (show ¬ (P : Int) < 8 by omega)]
    · refine ⟨fun z => absurd z.2.1 c1, fun _ => ?_⟩
      rw [if_neg (fun z => c1 ((abs_le20 hv).1.mp z)), if_neg (show ¬ (1 : Int32) = 0 by decide)]
  · refine ⟨fun z => absurd z.1 c0, fun _ => ?_⟩
    rw [if_pos ((abs_le20 hu).2.mpr c0), if_neg (show ¬ (1 : Int32) = 0 by decide)]
theorem e_cpS {st : XS} {n P : Nat} {A B C X Y : Nat → Int} {Kd : Nat → Nat} {u v w : Int} {k : Nat} (h : dC st n A B C Kd P X Y) (hD : dD n A B C Kd P X Y) (hu : ab 9 u) (hv : ab 9 v) : (gdS u v n A B → ∃ t, F_Tow_putStreet (zI (k : Int)) (zI u) (zI v) (zI w) st = some ((1 : Int32), t) ∧ cV st t ∧ dC t (n + 1) (ex A n u) (ex B n v) (ex C n w) (exK Kd n k) P X Y) ∧ (¬ gdS u v n A B → F_Tow_putStreet (zI (k : Int)) (zI u) (zI v) (zI w) st = some ((0 : Int32), st)) := by
  have hdir := e_hasDirD h hD hu hv
  obtain ⟨d1, d2, d3, d4⟩ := h
  have hn6 := hD.1
  have ku : zI u = (0 : Int32) ↔ u = 0 := zi_eq (ab_B hu (by decide)) (by decide) _ _ rfl rfl
  have kv : zI v = (0 : Int32) ↔ v = 0 := zi_eq (ab_B hv (by decide)) (by decide) _ _ rfl rfl
  have k6 : zI (n : Int) < (6 : Int32) ↔ (n : Int) < 6 := zi_lt (zB_n (by omega)) (by decide) _ _ rfl rfl
  have main : ¬ (u = 0 ∧ v = 0) → (gdS u v n A B → ∃ t, F_Tow_putStreet_m13 (zI (k : Int)) (zI u) (zI v) (zI w) (0 : Int32) st = some ((1 : Int32), t) ∧ cV st t ∧ dC t (n + 1) (ex A n u) (ex B n v) (ex C n w) (exK Kd n k) P X Y) ∧ (¬ gdS u v n A B → F_Tow_putStreet_m13 (zI (k : Int)) (zI u) (zI v) (zI w) (0 : Int32) st = some ((0 : Int32), st)) := by
    intro huv
    unfold F_Tow_putStreet_m13
    rw [if_pos rfl, hdir, Option.bind_some]
    by_cases cd : an (fun s => decide (gz_t A B u v s = 0)) n = true
    · refine ⟨fun z => ?_, fun _ => ?_⟩
      · obtain ⟨s, hs, hz⟩ := an_iff.mp cd
        exact absurd (by simpa using hz) (z.2.1 s hs)
      · rw [if_pos cd, if_neg (show ¬ zI 1 = (0 : Int32) by decide)]
    · rw [if_neg cd, if_pos (show zI 0 = (0 : Int32) from rfl), d1]
      simp only [k6]
      by_cases c6 : n < 6
      · refine ⟨fun _ => ?_, fun z => absurd ⟨huv, an_dir cd, c6⟩ z⟩
        have a0 : ∀ f : Nat → Int32, (xs_A st 9 f).1 8 4 = zI (n : Int) := fun f => by rw [xs_A_n (by decide), d1]
        have b0 : ∀ f g : Nat → Int32, (xs_A (xs_A st 9 f) 10 g).1 8 4 = zI (n : Int) := fun f g => by rw [xs_A_n (by decide), a0]
        have c0 : ∀ f g e : Nat → Int32, (xs_A (xs_A (xs_A st 9 f) 10 g) 11 e).1 8 4 = zI (n : Int) := fun f g e => by rw [xs_A_n (by decide), b0]
        have e0 : ∀ f g e i : Nat → Int32, (xs_A (xs_A (xs_A (xs_A st 9 f) 10 g) 11 e) 12 i).1 8 4 = zI (n : Int) := fun f g e i => by rw [xs_A_n (by decide), c0]
        have a2 : ∀ f : Nat → Int32, (xs_A st 9 f).1 10 = st.1 10 := fun f => xs_A_n (by decide)
        have b3 : ∀ f g : Nat → Int32, (xs_A (xs_A st 9 f) 10 g).1 11 = st.1 11 := fun f g => by rw [xs_A_n (by decide), xs_A_n (by decide)]
        have c4 : ∀ f g e : Nat → Int32, (xs_A (xs_A (xs_A st 9 f) 10 g) 11 e).1 12 = st.1 12 := fun f g e => by rw [xs_A_n (by decide), xs_A_n (by decide), xs_A_n (by decide)]
        rw [if_pos (show (n : Int) < 6 by omega), xo_ck_z c6 (by decide), Option.bind_some, xo_nm_b, zI_cl (by omega), a0, xo_ck_z c6 (by decide), Option.bind_some, xo_nm_b, zI_cl (by omega), b0, xo_ck_z c6 (by decide), Option.bind_some, xo_nm_b, zI_cl (by omega), c0, xo_ck_z c6 (by decide), Option.bind_some, xo_nm_b, zI_cl (by omega), e0, zI_suc, xo_nm_b, a2, b3, c4]
        refine ⟨_, rfl, ⟨rfl, fun j hj => ?_⟩, ?_, ?_, fun s hs => ?_, fun p hp => ?_⟩
        · have j0 : ¬ j = 8 := by omega
          have j1 : ¬ j = 9 := by omega
          have j2 : ¬ j = 10 := by omega
          have j3 : ¬ j = 11 := by omega
          have j4 : ¬ j = 12 := by omega
          simp [xs_I, xs_A, j0, j1, j2, j3, j4]
        · simp [xs_I, xs_A, upd]
        · simpa [xs_I, xs_A, upd] using d2
        · by_cases e : s = n
          · subst e
            rw [ex_n, ex_n, ex_n]
            simp [xs_I, xs_A, upd, exK]
          · rw [ex_o u (by omega), ex_o v (by omega), ex_o w (by omega)]
            simpa [xs_I, xs_A, upd, e, exK] using d3 s (by omega)
        · simpa [xs_I, xs_A, upd] using d4 p hp
      · refine ⟨fun z => absurd z.2.2 c6, fun _ => ?_⟩
        rw [if_neg (show ¬ (n : Int) < 6 by omega)]
  unfold F_Tow_putStreet F_Tow_putStreet_m12
  simp only [ku, kv]
  by_cases cu : u = 0
  · rw [if_pos cu]
    by_cases cv : v = 0
    · refine ⟨fun z => absurd ⟨cu, cv⟩ z.1, fun _ => ?_⟩
      rw [if_pos cv]
      unfold F_Tow_putStreet_m13
      rw [if_neg (show ¬ (1 : Int32) = 0 by decide)]
    · rw [if_neg cv]
      exact main (fun z => cv z.2)
  · rw [if_neg cu]
    exact main (fun z => cu z.1)
/-- what a parsed statement says, and what it asks -/
def gdR (r : Int × Int × Int × Int) (n : Nat) (A B : Nat → Int) (P : Nat) : Prop := if r.1 < 0 then gdP r.2.1 r.2.2.1 P else gdS r.2.1 r.2.2.1 n A B
def rOK (r : Int × Int × Int × Int) : Prop := if r.1 < 0 then r.1 = -1 ∧ ab 99 r.2.1 ∧ ab 99 r.2.2.1 else r.1 < 6 ∧ ab 9 r.2.1 ∧ ab 9 r.2.2.1 ∧ ab 99 r.2.2.2
theorem ps_rOK {L : Nat → Nat} {l a b : Nat} {r : Int × Int × Int × Int} (h : ps L l a = (b, some r)) : rOK r ∧ a < b := by
  unfold ps at h
  by_cases c1 : pt L l 115 a = true
  · rw [if_pos c1] at h
    by_cases c2 : pk L l (a + 1) = true
    · rw [if_pos c2] at h
      have hk : 0 ≤ kx (L (a + 1)) := by
        unfold pk at c2
        rw [Bool.and_eq_true, decide_eq_true_eq, decide_eq_true_eq] at c2
        exact c2.2
      have hb := kx_b (L (a + 1))
      rcases hp : pn L l false (a + 2) with ⟨b1, _ | u⟩
      · rw [hp] at h; cases h
      · rw [hp] at h
        have h : (pb (pn L l false b1) fun c v => pb (pn L l true c) fun d w => (d, some (kx (L (a + 1)), u, v, w))) = (b, some r) := h
        rcases hp2 : pn L l false b1 with ⟨c, _ | v⟩
        · rw [hp2] at h; cases h
        · rw [hp2] at h
          have h : (pb (pn L l true c) fun d w => (d, some (kx (L (a + 1)), u, v, w))) = (b, some r) := h
          rcases hp3 : pn L l true c with ⟨d, _ | w⟩
          · rw [hp3] at h; cases h
          · rw [hp3] at h
            have h : (d, some (kx (L (a + 1)), u, v, w)) = (b, some r) := h
            obtain ⟨e1, e2⟩ := Prod.mk.inj h
            have e2 := Option.some.inj e2
            subst e2
            obtain ⟨q1, q2⟩ := pn_val hp
            obtain ⟨q3, q4⟩ := pn_val hp2
            obtain ⟨q5, q6⟩ := pn_val hp3
            refine ⟨?_, by omega⟩
            unfold rOK
            rw [if_neg (show ¬ kx (L (a + 1)) < 0 by omega)]
            exact ⟨hb.2, q1, q3, q5⟩
    · rw [if_neg c2] at h; cases h
  · rw [if_neg c1] at h
    by_cases c2 : pt L l 112 a = true
    · rw [if_pos c2] at h
      rcases hp : pn L l true (a + 1) with ⟨b1, _ | u⟩
      · rw [hp] at h; cases h
      · rw [hp] at h
        have h : (pb (pn L l true b1) fun c v => (c, some ((-1 : Int), u, v, (0 : Int)))) = (b, some r) := h
        rcases hp2 : pn L l true b1 with ⟨c, _ | v⟩
        · rw [hp2] at h; cases h
        · rw [hp2] at h
          have h : (c, some ((-1 : Int), u, v, (0 : Int))) = (b, some r) := h
          obtain ⟨e1, e2⟩ := Prod.mk.inj h
          have e2 := Option.some.inj e2
          subst e2
          obtain ⟨q1, q2⟩ := pn_val hp
          obtain ⟨q3, q4⟩ := pn_val hp2
          refine ⟨?_, by omega⟩
          unfold rOK
          rw [if_pos (show (-1 : Int) < 0 by decide)]
          exact ⟨rfl, q1, q3⟩
    · rw [if_neg c2] at h; cases h
end
section
/-! the first reading: how far the letters go -/
def pos (L : Nat → Nat) (l : Nat) : Nat → Nat
  | 0 => 0
  | k + 1 => (pc L l (pos L l k)).1
theorem pos_suc (L : Nat → Nat) (l k : Nat) : pos L l (k + 1) = (pc L l (pos L l k)).1 := rfl
theorem pb_le {α β : Type} {l : Nat} {x : Nat × Option α} {g : Nat → α → Nat × Option β} (h : x.1 ≤ l) (hg : ∀ b v, b ≤ l → (g b v).1 ≤ l) : (pb x g).1 ≤ l := by
  rcases x with ⟨b, _ | v⟩
  · exact h
  · exact hg b v h
theorem ps_le {L : Nat → Nat} {l a : Nat} (h : a ≤ l) : (ps L l a).1 ≤ l := by
  unfold ps
  by_cases c1 : pt L l 115 a = true
  · have hl := (pt_lt c1).1
    rw [if_pos c1]
    by_cases c2 : pk L l (a + 1) = true
    · have hl2 : a + 1 < l := by
        unfold pk at c2
        rw [Bool.and_eq_true, decide_eq_true_eq] at c2
        exact c2.1
      rw [if_pos c2]
      exact pb_le (pn_le (by omega)).2 (fun b u hb => pb_le (pn_le hb).2 (fun c v hc => pb_le (pn_le hc).2 (fun d w hd => hd)))
    · rw [if_neg c2]; dsimp only; omega
  · rw [if_neg c1]
    by_cases c2 : pt L l 112 a = true
    · have hl := (pt_lt c2).1
      rw [if_pos c2]
      exact pb_le (pn_le (by omega)).2 (fun b u hb => pb_le (pn_le hb).2 (fun c v hc => hc))
    · rw [if_neg c2]; exact h
theorem pc_le {L : Nat → Nat} {l a : Nat} (h : a ≤ l) : (pc L l a).1 ≤ l := by
  unfold pc
  refine pb_le (ps_le h) (fun b r hb => ?_)
  by_cases c : pt L l 59 b = true
  · have := (pt_lt c).1
    rw [if_pos c]; dsimp only; omega
  · rw [if_neg c]; exact hb
theorem pc_some {L : Nat → Nat} {l a c : Nat} {r : Int × Int × Int × Int} (h : pc L l a = (c, some r)) : ∃ b, ps L l a = (b, some r) ∧ pt L l 59 b = true ∧ c = b + 1 := by
  unfold pc at h
  rcases hp : ps L l a with ⟨b, _ | r2⟩
  · rw [hp] at h; cases h
  · rw [hp] at h
    have h : (if pt L l 59 b = true then (b + 1, some r2) else (b, none)) = (c, some r) := h
    by_cases c1 : pt L l 59 b = true
    · rw [if_pos c1] at h
      obtain ⟨e1, e2⟩ := Prod.mk.inj h
      have e2 := Option.some.inj e2
      subst e2
      exact ⟨b, rfl, c1, e1.symm⟩
    · rw [if_neg c1] at h; cases h
theorem pc_lt {L : Nat → Nat} {l a : Nat} (h : (pc L l a).2 ≠ none) : a < (pc L l a).1 := by
  rcases hp : pc L l a with ⟨c, _ | r⟩
  · rw [hp] at h; exact absurd rfl h
  · obtain ⟨b, h1, h2, h3⟩ := pc_some hp
    have := (ps_rOK h1).2
    show a < c
    omega
def pF (L : Nat → Nat) (l m : Nat) : Prop := (∀ k, k < m → (pc L l (pos L l k)).2 ≠ none ∧ pos L l (k + 1) < l) ∧ (pc L l (pos L l m)).2 = none
def pS (L : Nat → Nat) (l m : Nat) : Prop := 0 < m ∧ (∀ k, k < m → (pc L l (pos L l k)).2 ≠ none) ∧ (∀ k, k + 1 < m → pos L l (k + 1) < l) ∧ pos L l m = l
theorem pos_le (L : Nat → Nat) (l : Nat) : ∀ k, pos L l k ≤ l
  | 0 => Nat.zero_le l
  | k + 1 => pc_le (pos_le L l k)
theorem pos_ge {L : Nat → Nat} {l : Nat} : ∀ {m : Nat}, (∀ k, k < m → (pc L l (pos L l k)).2 ≠ none) → m ≤ pos L l m
  | 0, _ => Nat.zero_le _
  | m + 1, h => by
    have h1 := pos_ge (L := L) (l := l) (m := m) (fun k hk => h k (by omega))
    have h2 := pc_lt (h m (by omega))
    rw [pos_suc]; omega
theorem p_or (L : Nat → Nat) (l : Nat) : ∃ m, m ≤ l ∧ (pF L l m ∨ pS L l m) := by
  have hex : ∃ m, (pc L l (pos L l m)).2 = none ∨ l ≤ pos L l (m + 1) := by
    refine Classical.byContradiction fun hno => ?_
    have hall : ∀ m, (pc L l (pos L l m)).2 ≠ none := fun m z => hno ⟨m, Or.inl z⟩
    have h1 := pos_ge (L := L) (l := l) (m := l + 1) (fun k _ => hall k)
    have h2 := pos_le L l (l + 1)
    omega
  obtain ⟨m, h1, h2⟩ := pk_least _ hex
  have hall : ∀ k, k < m → (pc L l (pos L l k)).2 ≠ none ∧ pos L l (k + 1) < l := fun k hk => by
    have := h2 k hk
    exact ⟨fun z => this (Or.inl z), by
      rcases Nat.lt_or_ge (pos L l (k + 1)) l with q | q
      · exact q
      · exact absurd (Or.inr q) this⟩
  have hge := pos_ge (L := L) (l := l) (m := m) (fun k hk => (hall k hk).1)
  have hle := pos_le L l m
  by_cases c : (pc L l (pos L l m)).2 = none
  · exact ⟨m, by omega, Or.inl ⟨hall, c⟩⟩
  · have hl : l ≤ pos L l (m + 1) := h1.resolve_left c
    have hl2 := pos_le L l (m + 1)
    have hlt := pc_lt c
    rw [← pos_suc] at hlt
    refine ⟨m + 1, by omega, Or.inr ⟨by omega, fun k hk => ?_, fun k hk => (hall k (by omega)).2, by omega⟩⟩
    by_cases e : k = m
    · subst e; exact c
    · exact (hall k (by omega)).1
/-- the class's first reading -/
theorem e_all1 {st : XS} {L : Nat → Nat} {l : Nat} (h : lC st L l) (k : Nat) (t : XS) (ht : ∃ kk ff, t = cS st (pos L l k) kk ff) : ((pc L l (pos L l k)).2 = none → ∃ kk ff, F_Let_readAll_b7 (zI (k : Int)) t = some (.inr (.inl (cS st (pc L l (pos L l k)).1 kk ff)))) ∧ ((pc L l (pos L l k)).2 ≠ none → ∃ kk ff, F_Let_readAll_b7 (zI (k : Int)) t = if l ≤ pos L l (k + 1) then some (.inr (.inr (zI ((k + 1 : Nat) : Int), cS st (pos L l (k + 1)) kk ff))) else if zI ((k + 1 : Nat) : Int) < (96 : Int32) then some (.inl (zI ((k + 1 : Nat) : Int), cS st (pos L l (k + 1)) kk ff)) else some (.inr (.inr (zI ((k + 1 : Nat) : Int), cS st (pos L l (k + 1)) kk ff)))) := by
  obtain ⟨kk, ff, rfl⟩ := ht
  have hle := pos_le L l k
  have hle2 := pos_le L l (k + 1)
  have hl := h.1
  obtain ⟨k', f', e1, e2⟩ := e_readStmt h hle kk ff
  unfold F_Let_readAll_b7
  rw [e1]
  unfold xo_bn
  rw [Option.bind_some]
  dsimp only
  rcases hp : pc L l (pos L l k) with ⟨c, _ | r⟩
  · refine ⟨fun _ => ⟨k', f', ?_⟩, fun z => absurd rfl z⟩
    rw [if_neg (show ¬ (Option.isSome (none : Option (Int × Int × Int × Int))) = true by decide), if_pos (show zI 0 = (0 : Int32) from rfl)]
  · refine ⟨fun z => (by cases z), fun _ => ⟨k', f', ?_⟩⟩
    have hpos : pos L l (k + 1) = c := by rw [pos_suc, hp]
    rw [if_pos (show (Option.isSome (some r)) = true from rfl), if_neg (show ¬ zI 1 = (0 : Int32) by decide), xo_nm_b, zI_suc, cS_1, cS_2, h.2.1, hpos]
    rw [hpos] at hle2
    by_cases c1 : l ≤ c
    · rw [if_pos (by rw [zI_le (zB_n (by omega)) (zB_n (by omega))]; omega), if_pos c1]
    · rw [if_neg (by rw [zI_le (zB_n (by omega)) (zB_n (by omega))]; omega), if_neg c1]
theorem e_allF {st : XS} {L : Nat → Nat} {l m : Nat} (h : lC st L l) (h0 : ∃ kk ff, st = cS st 0 kk ff) (hm : m ≤ l) (hF : pF L l m) : ∃ r, xo_lp (fun q : (Int32 × XS) => F_Let_readAll_b7 q.1 q.2) 1000000 ((0 : Int32), st) = some r ∧ ∃ kk ff, r = .inl (cS st (pc L l (pos L l m)).1 kk ff) := by
  have hl := h.1
  refine lp_ex (fun (k : Nat) (x : Int32 × XS) => x.1 = zI (k : Int) ∧ ∃ kk ff, x.2 = cS st (pos L l k) kk ff) _ m 1000000 _ (by omega) ⟨rfl, h0⟩ ?_ ?_
  · rintro k ⟨x, t⟩ hk ⟨e1, e2⟩
    dsimp only at e1 e2 ⊢
    subst e1
    obtain ⟨q1, q2⟩ := hF.1 k hk
    obtain ⟨kk, ff, e3⟩ := (e_all1 h k t e2).2 q1
    rw [if_neg (by omega), if_pos (by rw [show (96 : Int32) = zI 96 from rfl, zI_lt (zB_n (by omega)) (by decide)]; have := pos_ge (L := L) (l := l) (m := k + 1) (fun j hj => (hF.1 j (by omega)).1); omega)] at e3
    exact Or.inl ⟨_, e3, rfl, kk, ff, rfl⟩
  · rintro ⟨x, t⟩ ⟨e1, e2⟩
    dsimp only at e1 e2 ⊢
    subst e1
    obtain ⟨kk, ff, e3⟩ := (e_all1 h m t e2).1 hF.2
    exact ⟨_, e3, kk, ff, rfl⟩
theorem e_allS {st : XS} {L : Nat → Nat} {l m : Nat} (h : lC st L l) (h0 : ∃ kk ff, st = cS st 0 kk ff) (hm : m ≤ l) (hS : pS L l m) : ∃ r, xo_lp (fun q : (Int32 × XS) => F_Let_readAll_b7 q.1 q.2) 1000000 ((0 : Int32), st) = some r ∧ ∃ kk ff, r = .inr (zI (m : Int), cS st l kk ff) := by
  have hl := h.1
  obtain ⟨s1, s2, s3, s4⟩ := hS
  obtain ⟨m', rfl⟩ : ∃ m', m = m' + 1 := ⟨m - 1, by omega⟩
  refine lp_ex (fun (k : Nat) (x : Int32 × XS) => x.1 = zI (k : Int) ∧ ∃ kk ff, x.2 = cS st (pos L l k) kk ff) _ m' 1000000 _ (by omega) ⟨rfl, h0⟩ ?_ ?_
  · rintro k ⟨x, t⟩ hk ⟨e1, e2⟩
    dsimp only at e1 e2 ⊢
    subst e1
    have q2 := s3 k (by omega)
    obtain ⟨kk, ff, e3⟩ := (e_all1 h k t e2).2 (s2 k (by omega))
    rw [if_neg (by omega), if_pos (by rw [show (96 : Int32) = zI 96 from rfl, zI_lt (zB_n (by omega)) (by decide)]; have := pos_ge (L := L) (l := l) (m := k + 1) (fun j hj => s2 j (by omega)); omega)] at e3
    exact Or.inl ⟨_, e3, rfl, kk, ff, rfl⟩
  · rintro ⟨x, t⟩ ⟨e1, e2⟩
    dsimp only at e1 e2 ⊢
    subst e1
    obtain ⟨kk, ff, e3⟩ := (e_all1 h m' t e2).2 (s2 m' (by omega))
    rw [if_pos (by omega), s4] at e3
    exact ⟨_, e3, kk, ff, rfl⟩
end
section
/-! the reference's first reading -/
theorem e_mall1 {st : XS} {L : Nat → Nat} {l : Nat} (h : lM st L l) (k : Nat) (f : Nat → Int32) : ((pc L l (pos L l k)).2 = none → ∃ ff, F_Mod_town_b7 (1 : Int32) (mT st (pos L l k) f) = some (.inl ((0 : Int32), mT st (pc L l (pos L l k)).1 ff))) ∧ ((pc L l (pos L l k)).2 ≠ none → ∃ ff, F_Mod_town_b7 (1 : Int32) (mT st (pos L l k) f) = if pos L l (k + 1) = l then some (.inr (.inl ((1 : Int32), mT st (pos L l (k + 1)) ff))) else some (.inl ((1 : Int32), mT st (pos L l (k + 1)) ff))) := by
  have hle := pos_le L l k
  have hle2 := pos_le L l (k + 1)
  have hl := h.1
  have hst := e_mstmt h hle (0 : Int32) f
  unfold F_Mod_town_b7
  rw [if_neg (show ¬ (1 : Int32) = 0 by decide)]
  rcases hst with ⟨h1, f', h2⟩ | ⟨r, f', h1, -, -, -, h2⟩
  · have hpc : pc L l (pos L l k) = ((ps L l (pos L l k)).1, none) := by
      unfold pc
      rcases hp : ps L l (pos L l k) with ⟨b, _ | r⟩
      · rfl
      · rw [hp] at h1; cases h1
    rw [h2]
    unfold xo_bn
    rw [Option.bind_some]
    dsimp only
    rw [if_neg (show ¬ (-1 : Int32) = 1 by decide), hpc]
    refine ⟨fun _ => ⟨f', ?_⟩, fun z => absurd rfl z⟩
    unfold F_Mod_town_m33 F_Mod_town_m34
    rw [if_pos rfl]
  · obtain ⟨b, hb⟩ : ∃ b, ps L l (pos L l k) = (b, some r) := ⟨(ps L l (pos L l k)).1, by rw [← h1]⟩
    have hbl : b ≤ l := by have := ps_le (L := L) hle; rw [hb] at this; exact this
    have h3 : F_Mod_statement (0 : Int32) (mT st (pos L l k) f) = some ((1 : Int32), mT st b f') := by
      rw [h2, hb]
      unfold mpP mpS
      rw [if_pos rfl, if_pos rfl]
      split <;> rfl
    have t1 : F_Mod_is (59 : Int32) (mT st b f') = some (zI (if pt L l 59 b = true then 1 else 0), mT st (if pt L l 59 b = true then b + 1 else b) f') := e_mis (c := 59) h hbl (by decide) f'
    have hpc : pc L l (pos L l k) = if pt L l 59 b = true then (b + 1, some r) else (b, none) := by
      unfold pc; rw [hb]; rfl
    rw [h3]
    unfold xo_bn
    rw [Option.bind_some]
    dsimp only
    rw [if_pos rfl, t1, Option.bind_some]
    dsimp only
    by_cases c : pt L l 59 b = true
    · rw [if_pos c] at hpc
      have hpos : pos L l (k + 1) = b + 1 := by rw [pos_suc, hpc]
      rw [if_pos c, if_neg (show ¬ zI 1 = (0 : Int32) by decide), if_pos c]
      refine ⟨fun z => (by rw [hpc] at z; cases z), fun _ => ⟨f', ?_⟩⟩
      unfold F_Mod_town_m34
      rw [if_neg (show ¬ (1 : Int32) = 0 by decide), mT_10, mT_8, h.2.1, hpos]
      rw [hpos] at hle2
      by_cases e : b + 1 = l
      · rw [if_pos (by rw [e]), if_pos e]
      · rw [if_neg (by rw [zI_eq (zB_n (by omega)) (zB_n (by omega))]; omega), if_neg e]
    · rw [if_neg c] at hpc
      rw [if_neg c, if_pos (show zI 0 = (0 : Int32) from rfl), if_neg c]
      refine ⟨fun _ => ⟨f', ?_⟩, fun z => absurd (by rw [hpc]) z⟩
      unfold F_Mod_town_m33 F_Mod_town_m34
      rw [if_pos rfl, hpc]
theorem e_mallF {st : XS} {L : Nat → Nat} {l m : Nat} (h : lM st L l) (h0 : ∃ ff, st = mT st 0 ff) (hm : m ≤ l) (hF : pF L l m) : ∃ r, xo_lp (fun q : (Int32 × XS) => F_Mod_town_b7 q.1 q.2) 1000000 ((1 : Int32), st) = some r ∧ ∃ ff, r = .inr ((0 : Int32), mT st (pc L l (pos L l m)).1 ff) := by
  have hl := h.1
  refine lp_ex (fun (k : Nat) (x : Int32 × XS) => (k ≤ m → x.1 = (1 : Int32) ∧ ∃ ff, x.2 = mT st (pos L l k) ff) ∧ (m < k → x.1 = (0 : Int32) ∧ ∃ ff, x.2 = mT st (pc L l (pos L l m)).1 ff)) _ (m + 1) 1000000 _ (by omega) ⟨fun _ => ⟨rfl, h0⟩, fun z => absurd z (Nat.not_lt_zero m)⟩ ?_ ?_
  · rintro k ⟨x, t⟩ hk ⟨e1, -⟩
    dsimp only at e1 ⊢
    obtain ⟨rfl, f, rfl⟩ := e1 (by omega)
    by_cases e : k = m
    · subst e
      obtain ⟨ff, e3⟩ := (e_mall1 h k f).1 hF.2
      exact Or.inl ⟨_, e3, fun z => absurd z (by omega), fun _ => ⟨rfl, ff, rfl⟩⟩
    · obtain ⟨q1, q2⟩ := hF.1 k (by omega)
      obtain ⟨ff, e3⟩ := (e_mall1 h k f).2 q1
      rw [if_neg (by omega)] at e3
      exact Or.inl ⟨_, e3, fun _ => ⟨rfl, ff, rfl⟩, fun z => absurd z (by omega)⟩
  · rintro ⟨x, t⟩ ⟨-, e2⟩
    dsimp only at e2 ⊢
    obtain ⟨rfl, f, rfl⟩ := e2 (by omega)
    unfold F_Mod_town_b7
    rw [if_pos rfl]
    exact ⟨_, rfl, f, rfl⟩
theorem e_mallS {st : XS} {L : Nat → Nat} {l m : Nat} (h : lM st L l) (h0 : ∃ ff, st = mT st 0 ff) (hm : m ≤ l) (hS : pS L l m) : ∃ r, xo_lp (fun q : (Int32 × XS) => F_Mod_town_b7 q.1 q.2) 1000000 ((1 : Int32), st) = some r ∧ ∃ ff, r = .inl ((1 : Int32), mT st l ff) := by
  have hl := h.1
  obtain ⟨s1, s2, s3, s4⟩ := hS
  obtain ⟨m', rfl⟩ : ∃ m', m = m' + 1 := ⟨m - 1, by omega⟩
  refine lp_ex (fun (k : Nat) (x : Int32 × XS) => x.1 = (1 : Int32) ∧ ∃ ff, x.2 = mT st (pos L l k) ff) _ m' 1000000 _ (by omega) ⟨rfl, h0⟩ ?_ ?_
  · rintro k ⟨x, t⟩ hk ⟨e1, f, e2⟩
    dsimp only at e1 e2 ⊢
    subst e1; subst e2
    have q2 := s3 k (by omega)
    obtain ⟨ff, e3⟩ := (e_mall1 h k f).2 (s2 k (by omega))
    rw [if_neg (by omega)] at e3
    exact Or.inl ⟨_, e3, rfl, ff, rfl⟩
  · rintro ⟨x, t⟩ ⟨e1, f, e2⟩
    dsimp only at e1 e2 ⊢
    subst e1; subst e2
    obtain ⟨ff, e3⟩ := (e_mall1 h m' f).2 (s2 m' (by omega))
    rw [if_pos s4, s4] at e3
    exact ⟨_, e3, ff, rfl⟩
end
section
/-! the second reading: both tell the same -/
theorem e_cputP {st : XS} {n P : Nat} {A B C X Y : Nat → Int} {Kd : Nat → Nat} {u v : Int} (h : dC st n A B C Kd P X Y) (hD : dD n A B C Kd P X Y) (hu : ab 99 u) (hv : ab 99 v) (hk : st.1 28 3 = (-1 : Int32)) (h0 : st.1 30 0 = zI u) (h1 : st.1 30 1 = zI v) : (gdP u v P → ∃ t, F_Let_putStatement st = some ((1 : Int32), t) ∧ cV st t ∧ dC t n A B C Kd (P + 1) (ex X P u) (ex Y P v)) ∧ (¬ gdP u v P → F_Let_putStatement st = some ((0 : Int32), st)) := by
  obtain ⟨g1, g2⟩ := e_cpP h hD hu hv
  have r0 : ∀ f : Nat → Int32, xo_rd f 3 (0 : Int32) = some (f 0) := fun f => xo_rd_z (k := 0) (by decide) (by decide)
  have r1 : ∀ f : Nat → Int32, xo_rd f 3 (1 : Int32) = some (f 1) := fun f => xo_rd_z (k := 1) (by decide) (by decide)
  unfold F_Let_putStatement
  rw [if_pos hk, r0, Option.bind_some, r1, Option.bind_some, h0, h1]
  refine ⟨fun z => ?_, fun z => ?_⟩
  · obtain ⟨t, e1, e2, e3⟩ := g1 z
    rw [e1]
    exact ⟨t, rfl, e2, e3⟩
  · rw [g2 z]; rfl
theorem e_cputS {st : XS} {n P : Nat} {A B C X Y : Nat → Int} {Kd : Nat → Nat} {u v w : Int} {k : Nat} (h : dC st n A B C Kd P X Y) (hD : dD n A B C Kd P X Y) (hu : ab 9 u) (hv : ab 9 v) (hk6 : k < 6) (hk : st.1 28 3 = zI (k : Int)) (h0 : st.1 30 0 = zI u) (h1 : st.1 30 1 = zI v) (h2 : st.1 30 2 = zI w) : (gdS u v n A B → ∃ t, F_Let_putStatement st = some ((1 : Int32), t) ∧ cV st t ∧ dC t (n + 1) (ex A n u) (ex B n v) (ex C n w) (exK Kd n k) P X Y) ∧ (¬ gdS u v n A B → F_Let_putStatement st = some ((0 : Int32), st)) := by
  obtain ⟨g1, g2⟩ := e_cpS (w := w) (k := k) h hD hu hv
  have r0 : ∀ f : Nat → Int32, xo_rd f 3 (0 : Int32) = some (f 0) := fun f => xo_rd_z (k := 0) (by decide) (by decide)
  have r1 : ∀ f : Nat → Int32, xo_rd f 3 (1 : Int32) = some (f 1) := fun f => xo_rd_z (k := 1) (by decide) (by decide)
  have r2 : ∀ f : Nat → Int32, xo_rd f 3 (2 : Int32) = some (f 2) := fun f => xo_rd_z (k := 2) (by decide) (by decide)
  unfold F_Let_putStatement
  rw [if_neg (by rw [hk, show (-1 : Int32) = zI (-1) from rfl, zI_eq (zB_n (by omega)) (by decide)]; omega), r0, Option.bind_some, r1, Option.bind_some, r2, Option.bind_some, h0, h1, h2, hk]
  refine ⟨fun z => ?_, fun z => ?_⟩
  · obtain ⟨t, e1, e2, e3⟩ := g1 z
    rw [e1]
    exact ⟨t, rfl, e2, e3⟩
  · rw [g2 z]; rfl
def fC (sc tc : XS) : Prop := tc.2 = sc.2 ∧ (∀ k, k < 8 ∨ 14 < k → k ≠ 28 → k ≠ 30 → tc.1 k = sc.1 k) ∧ tc.1 28 1 = sc.1 28 1
def fM (sm tm : XS) : Prop := (∀ k, k = 5 ∨ 8 ≤ k → k ≠ 11 → tm.1 k = sm.1 k) ∧ ∀ j, j ≠ 0 → j ≠ 5 → j ≠ 10 → tm.1 0 j = sm.1 0 j
theorem lC_f {sc tc : XS} {L : Nat → Nat} {l : Nat} (h : lC sc L l) (f : fC sc tc) : lC tc L l := by
  unfold lC at *
  rw [f.2.2, f.2.1 29 (by omega) (by omega) (by omega)]; exact h
theorem lM_f {sm tm : XS} {L : Nat → Nat} {l : Nat} (h : lM sm L l) (f : fM sm tm) : lM tm L l := by
  unfold lM at *
  rw [f.2 8 (by omega) (by omega) (by omega), f.1 9 (by omega) (by omega)]; exact h
theorem fC_cS {sc tc : XS} (f : fC sc tc) (a : Nat) (k : Int32) (g : Nat → Int32) : fC sc (cS tc a k g) := ⟨f.1, fun c h1 h2 h3 => by rw [cS_o _ _ _ _ h2 h3]; exact f.2.1 c h1 h2 h3, f.2.2⟩
theorem fC_V {sc tc t : XS} (f : fC sc tc) (g : cV tc t) : fC sc t := ⟨g.1.trans f.1, fun c h1 h2 h3 => (g.2 c h1).trans (f.2.1 c h1 h2 h3), by rw [g.2 28 (by omega)]; exact f.2.2⟩
theorem fM_mT {sm tm : XS} (f : fM sm tm) (a : Nat) (g : Nat → Int32) : fM sm (mT tm a g) := ⟨fun c h1 h2 => by rw [mT_o _ _ _ (by omega) h2]; exact f.1 c h1 h2, fun j h1 h2 h3 => by rw [mT_0 _ _ _ h3]; exact f.2 j h1 h2 h3⟩
theorem fM_V {sm tm t : XS} (f : fM sm tm) (g : mV tm t) : fM sm t := ⟨fun c h1 h2 => (g.2.1 c h1).trans (f.1 c h1 h2), fun j h1 h2 h3 => (g.2.2 j h1 h2).trans (f.2 j h1 h2 h3)⟩
theorem dC_cS {tc : XS} {n P : Nat} {A B C X Y : Nat → Int} {Kd : Nat → Nat} (h : dC tc n A B C Kd P X Y) (a : Nat) (k : Int32) (g : Nat → Int32) : dC (cS tc a k g) n A B C Kd P X Y := h
theorem dM_mT {tm : XS} {n P : Nat} {A B C X Y : Nat → Int} {Kd : Nat → Nat} (h : dM tm n A B C Kd P X Y) (a : Nat) (g : Nat → Int32) : dM (mT tm a g) n A B C Kd P X Y := h
def zS (sc sm : XS) (a : Nat) (tc tm : XS) : Prop := tc.1 28 2 = zI (a : Int) ∧ tm.1 0 10 = zI (a : Int) ∧ fC sc tc ∧ fM sm tm ∧ ∃ n A B C Kd P X Y, dD n A B C Kd P X Y ∧ dC tc n A B C Kd P X Y ∧ dM tm n A B C Kd P X Y
theorem e_step2 {sc sm tc tm : XS} {L : Nat → Nat} {l m k : Nat} (hC : lC sc L l) (hM : lM sm L l) (hm : m ≤ l) (hk : k < m) (hs : (pc L l (pos L l k)).2 ≠ none) (hz : zS sc sm (pos L l k) tc tm) : (∃ tc' tm', F_Let_readInto_b18 (zI (m : Int)) (zI (k : Int)) tc = some (.inr (.inl (zI (pos L l k : Int), tc'))) ∧ F_Mod_town_b86 (zI (k : Int)) tm = some (.inr (.inl (zI (pos L l k : Int), tm'))) ∧ fC sc tc' ∧ fM sm tm') ∨ (∃ tc' tm', F_Let_readInto_b18 (zI (m : Int)) (zI (k : Int)) tc = some (.inl (zI ((k + 1 : Nat) : Int), tc')) ∧ F_Mod_town_b86 (zI (k : Int)) tm = some (.inl (zI ((k + 1 : Nat) : Int), tm')) ∧ zS sc sm (pos L l (k + 1)) tc' tm') := by
  obtain ⟨z1, z2, z3, z4, n, A, B, C, Kd, P, X, Y, hD, hdC, hdM⟩ := hz
  have hle := pos_le L l k
  have hle2 := pos_le L l (k + 1)
  have hl := hC.1
  have hlt := pc_lt hs
  rw [← pos_suc] at hlt
  have hCt := lC_f hC z3
  have hMt := lM_f hM z4
  -- the class reads
  have hrd := e_readStmt hCt hle (tc.1 28 3) (tc.1 30)
  rw [← cS_self z1] at hrd
  obtain ⟨k', f', e1, e2⟩ := hrd
  -- the reference reads
  have hst := e_mstmt hMt hle (1 : Int32) (tm.1 11)
  rw [← mT_self z2] at hst
  rcases hp : pc L l (pos L l k) with ⟨c, _ | r⟩
  · rw [hp] at hs; exact absurd rfl hs
  obtain ⟨b, p1, p2, p3⟩ := pc_some hp
  have hpos : pos L l (k + 1) = b + 1 := by rw [pos_suc, hp]; exact p3
  have hbl : b ≤ l := by have := (pt_lt p2).1; omega
  rw [hp] at e1 e2
  obtain ⟨k1, k2, k3, k4⟩ := e2 r rfl
  have hrOK := (ps_rOK p1).1
  rw [p1] at hst
  rcases hst with ⟨h1, -⟩ | ⟨r2, g', h1, m1, m2, m3, m4⟩
  · cases h1
  have h1 := Option.some.inj h1
  subst h1
  subst p3
  dsimp only at e1 m4
  rw [if_pos (show (Option.isSome (some r)) = true from rfl)] at e1
  have hCr : lC (cS tc (b + 1) k' f') L l := lC_f hC (fC_cS z3 _ _ _)
  have hfC := fC_cS z3 (b + 1) k' f'
  have hfM := fM_mT z4 b g'
  -- joint end of the step
  have go : ∀ (tc' tm' : XS), F_Let_putStatement (cS tc (b + 1) k' f') = some ((1 : Int32), tc') → cV (cS tc (b + 1) k' f') tc' → F_Mod_statement (1 : Int32) tm = some ((1 : Int32), tm') → mV (mT tm b g') tm' → (∃ n A B C Kd P X Y, dD n A B C Kd P X Y ∧ dC tc' n A B C Kd P X Y ∧ dM tm' n A B C Kd P X Y) → (∃ tc' tm', F_Let_readInto_b18 (zI (m : Int)) (zI (k : Int)) tc = some (.inl (zI ((k + 1 : Nat) : Int), tc')) ∧ F_Mod_town_b86 (zI (k : Int)) tm = some (.inl (zI ((k + 1 : Nat) : Int), tm')) ∧ zS sc sm (pos L l (k + 1)) tc' tm') := by
    intro tc' tm' q1 q2 q3 q4 q5
    have hM2 : lM tm' L l := lM_f hM (fM_V hfM q4)
    have h10 : tm'.1 0 10 = zI (b : Int) := (q4.2.2 10 (by omega) (by omega)).trans (mT_10 _ _ _)
    have t1 : F_Mod_is (59 : Int32) tm' = some (zI 1, mT tm' (b + 1) (tm'.1 11)) := by
      have := e_mis (c := 59) hM2 hbl (by decide) (tm'.1 11)
      rw [← mT_self h10, if_pos p2, if_pos p2] at this
      exact this
    obtain ⟨n', A', B', C', Kd', P', X', Y', w1, w2, w3⟩ := q5
    refine ⟨tc', mT tm' (b + 1) (tm'.1 11), ?_, ?_, ?_, ?_, fC_V hfC q2, fM_mT (fM_V hfM q4) _ _, n', A', B', C', Kd', P', X', Y', w1, w2, dM_mT w3 _ _⟩
    · unfold F_Let_readInto_b18
      rw [if_neg (zI_ge1 (by omega) hk), xo_nm_b, e1]
      unfold xo_bn
      rw [Option.bind_some]
      dsimp only
      rw [if_neg (show ¬ zI 1 = (0 : Int32) by decide), q1, Option.bind_some]
      dsimp only
      rw [if_neg (show ¬ (1 : Int32) = 0 by decide), xo_nm_b, zI_suc]
    · unfold F_Mod_town_b86
      rw [hMt.2.1, z2, if_neg (by rw [zI_le (zB_n (by omega)) (zB_n (by omega))]; omega), xo_nm_b, q3]
      unfold xo_bn
      rw [Option.bind_some]
      dsimp only
      rw [if_neg (show ¬ (1 : Int32) = 0 by decide), t1, Option.bind_some]
      dsimp only
      rw [xo_nm_b, zI_suc]
    · rw [q2.2 28 (by omega), cS_2, hpos]
    · rw [mT_10, hpos]
  have bad : F_Let_putStatement (cS tc (b + 1) k' f') = some ((0 : Int32), cS tc (b + 1) k' f') → F_Mod_statement (1 : Int32) tm = some ((0 : Int32), mT tm b g') → (∃ tc' tm', F_Let_readInto_b18 (zI (m : Int)) (zI (k : Int)) tc = some (.inr (.inl (zI (pos L l k : Int), tc'))) ∧ F_Mod_town_b86 (zI (k : Int)) tm = some (.inr (.inl (zI (pos L l k : Int), tm'))) ∧ fC sc tc' ∧ fM sm tm') := by
    intro q1 q3
    refine ⟨_, _, ?_, ?_, hfC, hfM⟩
    · unfold F_Let_readInto_b18
      rw [if_neg (zI_ge1 (by omega) hk), xo_nm_b, e1]
      unfold xo_bn
      rw [Option.bind_some]
      dsimp only
      rw [if_neg (show ¬ zI 1 = (0 : Int32) by decide), q1, Option.bind_some]
      dsimp only
      rw [if_pos rfl, z1]
    · unfold F_Mod_town_b86
      rw [hMt.2.1, z2, if_neg (by rw [zI_le (zB_n (by omega)) (zB_n (by omega))]; omega), xo_nm_b, q3]
      unfold xo_bn
      rw [Option.bind_some]
      dsimp only
      rw [if_pos rfl]
  by_cases hneg : r.1 < 0
  · unfold rOK at hrOK
    rw [if_pos hneg] at hrOK
    rw [if_pos hneg] at m4
    obtain ⟨o1, o2, o3⟩ := hrOK
    obtain ⟨c1, c2⟩ := e_cputP (u := r.2.1) (v := r.2.2.1) (dC_cS hdC (b + 1) k' f') hD o2 o3 (by rw [cS_3, k1, o1]; rfl) (by rw [cS_30]; exact k2) (by rw [cS_30]; exact k3)
    obtain ⟨d1, d2⟩ := e_mpP (u := r.2.1) (v := r.2.2.1) (dM_mT hdM b g') hD o2 o3 (by rw [mT_11]; exact m1) (by rw [mT_11]; exact m2)
    by_cases hg : gdP r.2.1 r.2.2.1 P
    · obtain ⟨tc', q1, q2, q3⟩ := c1 hg
      obtain ⟨tm', q4, q5, q6⟩ := d1 hg
      exact Or.inr (go tc' tm' q1 q2 (m4.trans q4) q5 ⟨_, _, _, _, _, _, _, _, dD_P hD hg, q3, q6⟩)
    · exact Or.inl (bad (c2 hg) (m4.trans (d2 hg)))
  · unfold rOK at hrOK
    rw [if_neg hneg] at hrOK
    rw [if_neg hneg] at m4
    obtain ⟨o1, o2, o3, o4⟩ := hrOK
    obtain ⟨kk, hkk⟩ : ∃ kk : Nat, r.1 = (kk : Int) := ⟨r.1.toNat, by omega⟩
    have hkk6 : kk < 6 := by omega
    obtain ⟨c1, c2⟩ := e_cputS (u := r.2.1) (v := r.2.2.1) (w := r.2.2.2) (k := kk) (dC_cS hdC (b + 1) k' f') hD o2 o3 hkk6 (by rw [cS_3, k1, hkk]) (by rw [cS_30]; exact k2) (by rw [cS_30]; exact k3) (by rw [cS_30]; exact k4 (by omega))
    obtain ⟨d1, d2⟩ := e_mpS (u := r.2.1) (v := r.2.2.1) (w := r.2.2.2) (k := kk) (dM_mT hdM b g') hD o2 o3 (by rw [mT_11]; exact m1) (by rw [mT_11]; exact m2) (by rw [mT_11]; exact m3 (by omega))
    rw [hkk] at m4
    by_cases hg : gdS r.2.1 r.2.2.1 n A B
    · obtain ⟨tc', q1, q2, q3⟩ := c1 hg
      obtain ⟨tm', q4, q5, q6⟩ := d1 hg
      exact Or.inr (go tc' tm' q1 q2 (m4.trans q4) q5 ⟨_, _, _, _, _, _, _, _, dD_S hD hg o2 o3 o4 hkk6, q3, q6⟩)
    · exact Or.inl (bad (c2 hg) (m4.trans (d2 hg)))
end
section
/-! a town told -/
theorem e_run2 {sc sm : XS} {L : Nat → Nat} {l m : Nat} (hC : lC sc L l) (hM : lM sm L l) (hm : m ≤ l) (hS : pS L l m) : ∀ (d k : Nat) (tc tm : XS) (fuel : Nat), k + d = m → d < fuel → zS sc sm (pos L l k) tc tm → (∃ (v : Nat) (tc' tm' : XS), xo_lp (fun q : (Int32 × XS) => F_Let_readInto_b18 (zI (m : Int)) q.1 q.2) fuel (zI (k : Int), tc) = some (.inl (zI (v : Int), tc')) ∧ xo_lp (fun q : (Int32 × XS) => F_Mod_town_b86 q.1 q.2) fuel (zI (k : Int), tm) = some (.inl (zI (v : Int), tm')) ∧ v ≤ l ∧ fC sc tc' ∧ fM sm tm') ∨ (∃ tc' tm' : XS, xo_lp (fun q : (Int32 × XS) => F_Let_readInto_b18 (zI (m : Int)) q.1 q.2) fuel (zI (k : Int), tc) = some (.inr tc') ∧ xo_lp (fun q : (Int32 × XS) => F_Mod_town_b86 q.1 q.2) fuel (zI (k : Int), tm) = some (.inr (zI (m : Int), tm')) ∧ zS sc sm l tc' tm') := by
  intro d
  induction d with
  | zero =>
    intro k tc tm fuel hk hf hz
    obtain ⟨f, rfl⟩ : ∃ f, fuel = f + 1 := ⟨fuel - 1, by omega⟩
    obtain rfl : k = m := by omega
    rw [hS.2.2.2] at hz
    refine Or.inr ⟨tc, tm, ?_, ?_, hz⟩
    · refine lp_e1 ?_
      dsimp only
      unfold F_Let_readInto_b18
      rw [if_pos (zI_rfl _)]
    · refine lp_e1 ?_
      dsimp only
      unfold F_Mod_town_b86
      rw [(lM_f hM hz.2.2.2.1).2.1, hz.2.1, if_pos (zI_rfl _)]
  | succ d ih =>
    intro k tc tm fuel hk hf hz
    obtain ⟨f, rfl⟩ : ∃ f, fuel = f + 1 := ⟨fuel - 1, by omega⟩
    rcases e_step2 hC hM hm (show k < m by omega) (hS.2.1 k (by omega)) hz with ⟨tc', tm', h1, h2, h3, h4⟩ | ⟨tc', tm', h1, h2, h3⟩
    · exact Or.inl ⟨pos L l k, tc', tm', lp_e1 h1, lp_e1 h2, pos_le L l k, h3, h4⟩
    · have i := ih (k + 1) tc' tm' f (by omega) (by omega) h3
      rw [lp_s1 (f := fun q : (Int32 × XS) => F_Let_readInto_b18 (zI (m : Int)) q.1 q.2) (x := (zI (k : Int), tc)) h1, lp_s1 (f := fun q : (Int32 × XS) => F_Mod_town_b86 q.1 q.2) (x := (zI (k : Int), tm)) h2]
      exact i
theorem cS_set (st : XS) (a : Nat) : xs_I st 28 2 (zI (a : Int)) = cS st a (st.1 28 3) (st.1 30) := by
  unfold cS xs_I
  refine Prod.ext ?_ rfl
  funext c
  dsimp only
  by_cases e : c = 28
  · subst e
    rw [if_pos rfl, if_pos rfl]
    funext j
    unfold upd
    by_cases e2 : j = 2
    · subst e2; rw [if_pos rfl, if_pos rfl]
    · rw [if_neg e2, if_neg e2]
      by_cases e3 : j = 3
      · subst e3; rw [if_pos rfl]
      · rw [if_neg e3]
  · rw [if_neg e, if_neg e]
    by_cases e3 : c = 30
    · subst e3; rw [if_pos rfl]
    · rw [if_neg e3]
theorem mT_set (st : XS) (a : Nat) : xs_I st 0 10 (zI (a : Int)) = mT st a (st.1 11) := by
  unfold mT xs_I
  refine Prod.ext ?_ rfl
  funext c
  dsimp only
  by_cases e : c = 0
  · subst e
    rw [if_pos rfl, if_pos rfl]
    funext j
    unfold upd
    by_cases e2 : j = 10
    · subst e2; rw [if_pos rfl]
    · rw [if_neg e2]
  · rw [if_neg e, if_neg e]
    by_cases e3 : c = 11
    · subst e3; rw [if_pos rfl]
    · rw [if_neg e3]
theorem RR_fin {sc sm tc tm : XS} (h : xz_RR sc sm) (hR : ∃ n A B C Kd P X Y, xR tc tm n A B C Kd P X Y) (c0 : tc.1 0 = sc.1 0) (c28 : tc.1 28 1 = 0) (cc : ∀ k, (15 ≤ k ∧ k ≤ 21) ∨ k = 31 ∨ k = 32 → tc.1 k = sc.1 k) (m8 : tm.1 0 8 = 0) (m0 : ∀ j, j = 12 ∨ j = 15 → tm.1 0 j = sm.1 0 j) (mm : ∀ k, k = 13 ∨ k = 14 ∨ k = 16 → tm.1 k = sm.1 k) : xz_RR tc tm := by
  obtain ⟨-, h2, h3, h4, h5⟩ := h
  exact ⟨hR, ⟨0, by omega, c28, m8, fun i hi => absurd hi (Nat.not_lt_zero i)⟩, xW_of h3 (by rw [c0]) (cc 31 (by omega)) (m0 12 (by omega)) (mm 13 (by omega)), xF_of h4 (cc 32 (by omega)) (mm 14 (by omega)), xI_of h5 (by rw [c0]) (m0 15 (by omega)) (fun k h1 h2 => cc k (by omega)) (mm 16 (by omega))⟩
/-- the town as it was: also where places were written and written back -/
theorem xR_back {sc sm tc tm : XS} {n : Nat} {A B C : Nat → Int} {Kd : Nat → Nat} {P : Nat} {X Y : Nat → Int} (h : xR sc sm n A B C Kd P X Y) (e1 : ∀ k, 1 ≤ k → k ≤ 7 → tc.1 k = sc.1 k) (e2 : ∀ k, 22 ≤ k → k ≤ 27 → tc.1 k = sc.1 k) (e3 : tc.2 = sc.2) (f0 : tm.1 0 0 = sm.1 0 0) (f5 : tm.1 0 5 = sm.1 0 5) (f2 : ∀ s, s < 6 → tm.1 1 s = sm.1 1 s ∧ tm.1 2 s = sm.1 2 s ∧ tm.1 3 s = sm.1 3 s ∧ tm.1 4 s = sm.1 4 s) (f6 : ∀ p, p < 8 → tm.1 6 p = sm.1 6 p ∧ tm.1 7 p = sm.1 7 p) : xR tc tm n A B C Kd P X Y := by
  obtain ⟨h1, h2, h3, h4, h5, h6, h7, h8⟩ := h
  have hn6 := h1.2.1
  have hP8 := h5.2.1
  refine ⟨?_, h2, gPl_of h3 e2 e3, fun s hs => ?_, ?_, f0.trans h6, ⟨h7.1, fun s hs => ?_, h7.2.2⟩, f5.trans h8.1, hP8, fun p hp => ?_⟩
  · unfold cL at *
    rw [e1 1 (by omega) (by omega), e1 3 (by omega) (by omega), e1 4 (by omega) (by omega), e1 5 (by omega) (by omega)]; exact h1
  · rw [e1 2 (by omega) (by omega), (f2 s (by omega)).1]; exact h4 s hs
  · unfold pL at *
    rw [e1 1 (by omega) (by omega), e1 6 (by omega) (by omega), e1 7 (by omega) (by omega)]; exact h5
  · obtain ⟨-, g1, g2, g3⟩ := f2 s (by omega)
    rw [g1, g2, g3]; exact h7.2.1 s hs
  · obtain ⟨g1, g2⟩ := f6 p (by omega)
    rw [g1, g2]; exact h8.2.2 p hp
theorem s_town (sc sm : XS) (h : xz_RR sc sm) : ∃ (r : Int32) (sc2 sm2 : XS), F_All_town sc = some (r, sc2) ∧ F_Mod_town sm = some (r, sm2) ∧ xz_RR sc2 sm2 := by
  have hq := h
  obtain ⟨⟨n, A, B, C, Kd, P, X, Y, hR⟩, ⟨l, hl, lc, lm, hls⟩, h3, h4, h5⟩ := h
  have hR0 := hR
  obtain ⟨hc, hok, hpl, hkd, hp, hn, hm, hpm⟩ := hR
  obtain ⟨t1, g1, a1, a2, a3, a4, a5, a6⟩ := e_copy sc
  have hn6 := hc.2.1
  have hP8 := hp.2.1
  -- the letters
  have hL : ∀ i, i < l → (sc.1 29 i).toNatClampNeg < 256 ∧ sc.1 29 i = zI ((sc.1 29 i).toNatClampNeg : Int) ∧ sm.1 9 i = zI ((sc.1 29 i).toNatClampNeg : Int) := fun i hi => by
    obtain ⟨c, e1, e2, e3⟩ := hls i hi
    rw [e2, e3, zI_cl (by omega)]
    exact ⟨e1, rfl, rfl⟩
  generalize hLd : (fun i => (sc.1 29 i).toNatClampNeg) = L
  have hLi : ∀ i, (sc.1 29 i).toNatClampNeg = L i := fun i => by rw [← hLd]
  have hCt1 : lC t1 L l := ⟨hl, by rw [a2 28 (by omega), lc], fun i hi => by
    rw [a2 29 (by omega), ← hLi]
    exact ⟨(hL i hi).1, (hL i hi).2.1⟩⟩
  have hMsm : lM sm L l := ⟨hl, lm, fun i hi => by
    rw [← hLi]
    exact ⟨(hL i hi).1, (hL i hi).2.2⟩⟩
  have hD : dD n A B C Kd P X Y := ⟨hn6, hP8, hc.2.2.2, hok, fun s hs => (hkd s hs).2.2, fun p hpp => ⟨(hp.2.2 p hpp).2.2.1, (hp.2.2 p hpp).2.2.2⟩⟩
  have hdC : dC t1 n A B C Kd P X Y := ⟨a3.trans hc.1, a4.trans hp.1, fun s hs => by
    obtain ⟨q1, q2, q3, q4⟩ := a5 s (by omega)
    obtain ⟨l1, l2, l3⟩ := hc.2.2.1 s hs
    exact ⟨q1.trans (hkd s hs).1, q2.trans l1, q3.trans l2, q4.trans l3⟩, fun p hpp => by
    obtain ⟨q1, q2⟩ := a6 p (by omega)
    exact ⟨q1.trans (hp.2.2 p hpp).1, q2.trans (hp.2.2 p hpp).2.1⟩⟩
  unfold F_All_town F_Let_readInto F_Let_readAll F_Mod_town
  have e0 : (0 : Int32) = zI ((0 : Nat) : Int) := rfl
  have hs1 : xs_I t1 28 2 (0 : Int32) = cS t1 0 (t1.1 28 3) (t1.1 30) := cS_set t1 0
  have hs2 : xs_I sm 0 10 (0 : Int32) = mT sm 0 (sm.1 11) := mT_set sm 0
  rw [g1, Option.bind_some, hs1, hs2, xo_nm_b, xo_nm_b]
  generalize hu1 : cS t1 0 (t1.1 28 3) (t1.1 30) = u1
  generalize hu2 : mT sm 0 (sm.1 11) = u2
  have u1s : u1 = cS u1 0 (u1.1 28 3) (u1.1 30) := cS_self (by rw [← hu1]; rfl)
  have u2s : u2 = mT u2 0 (u2.1 11) := mT_self (by rw [← hu2]; rfl)
  have hCu : lC u1 L l := by rw [← hu1]; exact hCt1
  have hMu : lM u2 L l := by rw [← hu2]; exact hMsm
  have u1o : ∀ k, k ≠ 28 → k ≠ 30 → u1.1 k = t1.1 k := fun k q1 q2 => by rw [← hu1, cS_o _ _ _ _ q1 q2]
  have u1l : u1.2 = t1.2 := by rw [← hu1]; rfl
  have u2o : ∀ k, k ≠ 0 → k ≠ 11 → u2.1 k = sm.1 k := fun k q1 q2 => by rw [← hu2, mT_o _ _ _ q1 q2]
  have u20 : ∀ j, j ≠ 10 → u2.1 0 j = sm.1 0 j := fun j q1 => by rw [← hu2, mT_0 _ _ _ q1]
  have hdCu : dC u1 n A B C Kd P X Y := by rw [← hu1]; exact hdC
  obtain ⟨m, hml, hF | hS⟩ := p_or L l
  · -- a letter with which no town can go on
    obtain ⟨r1, w1, kk, ff, rfl⟩ := e_allF hCu ⟨_, _, u1s⟩ hml hF
    obtain ⟨r2, w2, gg, rfl⟩ := e_mallF hMu ⟨_, u2s⟩ hml hF
    have hpl9 := pc_le (L := L) (pos_le L l m)
    generalize (pc L l (pos L l m)).1 = b at *
    have ev : (-1000 : Int32) - zI (b : Int) = zI (-1000 - (b : Int)) := by
      rw [show (-1000 : Int32) = zI (-1000) from rfl, zI_sub]
    rw [w1, w2, Option.bind_some, Option.bind_some]
    unfold xo_bn F_Let_clear
    rw [Sum.elim_inl, Option.bind_some, cS_2, ev]
    dsimp only
    rw [if_neg (by rw [zI_0, zI_le (by decide) ⟨by omega, by omega⟩]; omega), Option.bind_some]
    dsimp only
    rw [xo_nm_b, Option.bind_some, if_pos (by rw [zI_0, zI_le ⟨by omega, by omega⟩ (by decide)]; omega), Sum.elim_inr]
    unfold xo_u2 F_Mod_town_m53
    dsimp only
    rw [if_pos rfl, xo_nm_b]
    have em : (xs_I (mT u2 b gg) 0 8 (0 : Int32)).1 0 10 = zI (b : Int) := by simp [xs_I, upd, mT]
    rw [em, ev]
    refine ⟨_, _, _, rfl, rfl, ?_⟩
    have k1 : ∀ k, k ≠ 28 → k ≠ 30 → (xs_I (cS u1 b kk ff) 28 1 (0 : Int32)).1 k = t1.1 k := fun k q1 q2 => by
      have : (xs_I (cS u1 b kk ff) 28 1 (0 : Int32)).1 k = (cS u1 b kk ff).1 k := by simp [xs_I, q1]
      rw [this, cS_o _ _ _ _ q1 q2, u1o k q1 q2]
    have k2 : (xs_I (cS u1 b kk ff) 28 1 (0 : Int32)).1 28 1 = 0 := by simp [xs_I, upd]
    have k3 : (xs_I (cS u1 b kk ff) 28 1 (0 : Int32)).2 = sc.2 := u1l.trans a1
    have k4 : ∀ k, k ≠ 0 → k ≠ 11 → (xs_I (mT u2 b gg) 0 8 (0 : Int32)).1 k = sm.1 k := fun k q1 q2 => by
      have : (xs_I (mT u2 b gg) 0 8 (0 : Int32)).1 k = (mT u2 b gg).1 k := by simp [xs_I, q1]
      rw [this, mT_o _ _ _ q1 q2, u2o k q1 q2]
    have k5 : (xs_I (mT u2 b gg) 0 8 (0 : Int32)).1 0 8 = 0 := by simp [xs_I, upd]
    have k6 : ∀ j, j ≠ 8 → j ≠ 10 → (xs_I (mT u2 b gg) 0 8 (0 : Int32)).1 0 j = sm.1 0 j := fun j q1 q2 => by
      have : (xs_I (mT u2 b gg) 0 8 (0 : Int32)).1 0 j = (mT u2 b gg).1 0 j := by simp [xs_I, upd, q1]
      rw [this, mT_0 _ _ _ q2, u20 j q2]
    generalize xs_I (cS u1 b kk ff) 28 1 (0 : Int32) = v1 at *
    generalize xs_I (mT u2 b gg) 0 8 (0 : Int32) = v2 at *
    refine RR_fin hq ⟨n, A, B, C, Kd, P, X, Y, xR_of hR0 (fun k q1 q2 => by rw [k1 k (by omega) (by omega), a2 k (by omega)]) (fun k q1 q2 => by rw [k1 k (by omega) (by omega), a2 k (by omega)]) k3 (k6 0 (by omega) (by omega)) (k6 5 (by omega) (by omega)) (fun k q => k4 k (by omega) (by omega)) (fun s _ => by rw [k4 2 (by omega) (by omega), k4 3 (by omega) (by omega), k4 4 (by omega) (by omega)]; exact ⟨rfl, rfl, rfl⟩)⟩ (by rw [k1 0 (by omega) (by omega), a2 0 (by omega)]) k2 (fun k q => by rw [k1 k (by omega) (by omega), a2 k (by omega)]) k5 (fun j q => k6 j (by omega) (by omega)) (fun k q => k4 k (by omega) (by omega))
  · -- all letters are read
    obtain ⟨r1, w1, kk, ff, rfl⟩ := e_allS hCu ⟨_, _, u1s⟩ hml hS
    obtain ⟨r2, w2, gg, rfl⟩ := e_mallS hMu ⟨_, u2s⟩ hml hS
    have hm0 := hS.1
    obtain ⟨t12, q1, q2, q3, q4, q5, q6, q7⟩ := e_keep (mT u2 l gg)
    have hs3 : xs_I (cS u1 l kk ff) 28 2 (0 : Int32) = cS u1 0 kk ff := cS_at u1 l 0 kk ff
    have hs4 : xs_I t12 0 10 (0 : Int32) = mT t12 0 (t12.1 11) := mT_set t12 0
    have hM12 : lM t12 L l := by
      unfold lM
      rw [q3 0 (by omega), q3 9 (by omega)]
      exact hMu
    have b0 : ∀ k, k ≠ 0 → k ≠ 11 → k ≠ 17 → t12.1 k = sm.1 k := fun k z1 z2 z3 => by rw [q3 k z3, mT_o _ _ _ z1 z2, u2o k z1 z2]
    have b1 : ∀ j, j ≠ 10 → t12.1 0 j = sm.1 0 j := fun j z1 => by rw [q3 0 (by omega), mT_0 _ _ _ z1, u20 j z1]
    have hdM : dM t12 n A B C Kd P X Y := ⟨(b1 0 (by omega)).trans hn, (b1 5 (by omega)).trans hpm.1, fun s hs => by
      rw [b0 1 (by omega) (by omega) (by omega), b0 2 (by omega) (by omega) (by omega), b0 3 (by omega) (by omega) (by omega), b0 4 (by omega) (by omega) (by omega)]
      exact ⟨(hkd s hs).2.1, hm.2.1 s hs⟩, fun p hpp => by
      rw [b0 6 (by omega) (by omega) (by omega), b0 7 (by omega) (by omega) (by omega)]
      exact ⟨(hpm.2.2 p hpp).1, (hpm.2.2 p hpp).2.1⟩⟩
    have hz : zS u1 t12 (pos L l 0) (cS u1 0 kk ff) (mT t12 0 (t12.1 11)) := ⟨rfl, rfl, fC_cS ⟨rfl, fun _ _ _ _ => rfl, rfl⟩ _ _ _, fM_mT ⟨fun _ _ _ => rfl, fun _ _ _ _ => rfl⟩ _ _, n, A, B, C, Kd, P, X, Y, hD, dC_cS hdCu _ _ _, dM_mT hdM _ _⟩
    have hrun := e_run2 hCu hM12 hml hS m 0 _ _ 1000000 (by omega) (by omega) hz
    have e00 : ((0 : Int32), cS u1 0 kk ff) = (zI ((0 : Nat) : Int), cS u1 0 kk ff) := rfl
    have e01 : ((0 : Int32), mT t12 0 (t12.1 11)) = (zI ((0 : Nat) : Int), mT t12 0 (t12.1 11)) := rfl
    rw [w1, w2, Option.bind_some, Option.bind_some, Sum.elim_inr, Sum.elim_inl]
    unfold xo_bn F_Let_clear F_Mod_town_m53 xo_u2
    dsimp only
    rw [Option.bind_some]
    dsimp only
    rw [if_pos (by rw [zI_0, zI_le (by decide) (zB_n (by omega))]; omega), xo_nm_b, hs3, if_neg (show ¬ (1 : Int32) = 0 by decide), q1, Option.bind_some, xo_nm_b, hs4, e00, e01]
    -- the class's cells after the second reading
    have cfr : ∀ tc' : XS, fC u1 tc' → (∀ k, k < 8 ∨ 14 < k → k ≠ 28 → k ≠ 30 → (xs_I tc' 28 1 (0 : Int32)).1 k = sc.1 k) ∧ (xs_I tc' 28 1 (0 : Int32)).1 28 1 = 0 ∧ (xs_I tc' 28 1 (0 : Int32)).2 = sc.2 ∧ (∀ k, k ≠ 28 → (xs_I tc' 28 1 (0 : Int32)).1 k = tc'.1 k) := fun tc' hf => by
      refine ⟨fun k z1 z2 z3 => ?_, by simp [xs_I, upd], (hf.1.trans u1l).trans a1, fun k z2 => by simp [xs_I, z2]⟩
      have : (xs_I tc' 28 1 (0 : Int32)).1 k = tc'.1 k := by simp [xs_I, z2]
      rw [this, hf.2.1 k z1 z2 z3, u1o k z2 z3, a2 k z1]
    rcases hrun with ⟨v, tc', tm', x1, x2, x3, x4, x5⟩ | ⟨tc', tm', x1, x2, x3⟩
    · -- a statement that is not as it must be
      obtain ⟨t18, y1, y2, y3, y4, y5, y6, y7, y8⟩ := e_again tm'
      have ev : (-2000 : Int32) - zI (v : Int) = zI (-2000 - (v : Int)) := by
        rw [show (-2000 : Int32) = zI (-2000) from rfl, zI_sub]
      rw [x1, x2, Option.bind_some, Option.bind_some, Sum.elim_inl, Sum.elim_inl]
      dsimp only
      rw [Option.bind_some, y1, Option.bind_some, xo_nm_b, ev]
      dsimp only
      rw [xo_nm_b, Option.bind_some, if_pos (by rw [zI_0, zI_le ⟨by omega, by omega⟩ (by decide)]; omega)]
      refine ⟨_, _, _, rfl, rfl, ?_⟩
      obtain ⟨k1, k2, k3, k9⟩ := cfr tc' x4
      have m17 : ∀ j, tm'.1 17 j = t12.1 17 j := fun j => by rw [x5.1 17 (by omega) (by omega)]
      have k4 : ∀ k, k = 13 ∨ k = 14 ∨ k = 16 → (xs_I t18 0 8 (0 : Int32)).1 k = sm.1 k := fun k z => by
        have : (xs_I t18 0 8 (0 : Int32)).1 k = t18.1 k := by
          have : ¬ k = 0 := by omega
          simp [xs_I, this]
        rw [this, y3 k (by omega), x5.1 k (by omega) (by omega), b0 k (by omega) (by omega) (by omega)]
      have k5 : (xs_I t18 0 8 (0 : Int32)).1 0 8 = 0 := by simp [xs_I, upd]
      have k6 : ∀ j, j ≠ 8 → (xs_I t18 0 8 (0 : Int32)).1 0 j = t18.1 0 j := fun j z => by simp [xs_I, upd, z]
      have k7 : ∀ k, k ≠ 0 → (xs_I t18 0 8 (0 : Int32)).1 k = t18.1 k := fun k z => by simp [xs_I, z]
      generalize xs_I tc' 28 1 (0 : Int32) = v1 at *
      generalize xs_I t18 0 8 (0 : Int32) = v2 at *
      refine RR_fin hq ⟨n, A, B, C, Kd, P, X, Y, xR_back hR0 (fun k z1 z2 => k1 k (by omega) (by omega) (by omega)) (fun k z1 z2 => k1 k (by omega) (by omega) (by omega)) k3 ?_ ?_ (fun s hs => ?_) (fun p hpp => ?_)⟩ (k1 0 (by omega) (by omega) (by omega)) k2 (fun k z => k1 k (by omega) (by omega) (by omega)) k5 (fun j z => ?_) k4
      · rw [k6 0 (by omega), y7, m17, q6, mT_0 _ _ _ (by omega), u20 0 (by omega)]
      · rw [k6 5 (by omega), y8, m17, q7, mT_0 _ _ _ (by omega), u20 5 (by omega)]
      · obtain ⟨z1, z2, z3, z4⟩ := y5 s hs
        obtain ⟨z5, z6, z7, z8⟩ := q4 s hs
        rw [k7 1 (by omega), k7 2 (by omega), k7 3 (by omega), k7 4 (by omega), z1, z2, z3, z4, m17, m17, m17, m17, z5, z6, z7, z8, mT_o _ _ _ (by omega) (by omega), mT_o _ _ _ (by omega) (by omega), mT_o _ _ _ (by omega) (by omega), mT_o _ _ _ (by omega) (by omega), u2o 1 (by omega) (by omega), u2o 2 (by omega) (by omega), u2o 3 (by omega) (by omega), u2o 4 (by omega) (by omega)]
        exact ⟨rfl, rfl, rfl, rfl⟩
      · obtain ⟨z1, z2⟩ := y6 p hpp
        obtain ⟨z5, z6⟩ := q5 p hpp
        rw [k7 6 (by omega), k7 7 (by omega), z1, z2, m17, m17, z5, z6, mT_o _ _ _ (by omega) (by omega), mT_o _ _ _ (by omega) (by omega), u2o 6 (by omega) (by omega), u2o 7 (by omega) (by omega)]
        exact ⟨rfl, rfl⟩
      · rw [k6 j (by omega), y4 j (by omega) (by omega), x5.2 j (by omega) (by omega) (by omega), b1 j (by omega)]
    · -- all come
      obtain ⟨z1, z2, z3, z4, n', A', B', C', Kd', P', X', Y', hD', hdC', hdM'⟩ := x3
      obtain ⟨k1, k2, k3, k9⟩ := cfr tc' z3
      rw [x1, x2, Option.bind_some, Option.bind_some, Sum.elim_inr, Sum.elim_inr]
      dsimp only
      rw [Option.bind_some, xo_nm_b]
      try dsimp only
      rw [xo_nm_b, Option.bind_some, if_neg (by rw [zI_0, zI_le (zB_n (by omega)) (by decide)]; omega)]
      have k5 : (xs_I tm' 0 8 (0 : Int32)).1 0 8 = 0 := by simp [xs_I, upd]
      have k6 : ∀ j, j ≠ 8 → (xs_I tm' 0 8 (0 : Int32)).1 0 j = tm'.1 0 j := fun j z => by simp [xs_I, upd, z]
      have k7 : ∀ k, k ≠ 0 → (xs_I tm' 0 8 (0 : Int32)).1 k = tm'.1 k := fun k z => by simp [xs_I, z]
      generalize xs_I tc' 28 1 (0 : Int32) = v1 at *
      generalize xs_I tm' 0 8 (0 : Int32) = v2 at *
      obtain ⟨t5, y1, y2, y3, y4, y5, y6, y7⟩ := e_copy_v1 v1
      have hcL : cL t5 n' A' B' C' := by
        refine ⟨?_, hD'.1, fun s hs => ?_, hD'.2.2.1⟩
        · rw [y4, k9 8 (by omega)]; exact hdC'.1
        · obtain ⟨d1, d2, d3, d4⟩ := y6 s (by have := hD'.1; omega)
          obtain ⟨f1, f2, f3, f4⟩ := hdC'.2.2.1 s hs
          refine ⟨d2.trans ?_, d3.trans ?_, d4.trans ?_⟩
          · rw [k9 (8 + 2) (by omega)]; exact f2
          · rw [k9 (8 + 3) (by omega)]; exact f3
          · rw [k9 (8 + 4) (by omega)]; exact f4
      obtain ⟨t6, c1, c2, c3⟩ := e_measure hcL
      rw [y1, Option.bind_some, c1, Option.bind_some]
      refine ⟨_, _, _, rfl, rfl, ?_⟩
      have hn' := hD'.1
      have hP' := hD'.2.1
      have c4 : ∀ k, (15 ≤ k ∧ k ≤ 21) ∨ k = 31 ∨ k = 32 ∨ k = 0 → t6.1 k = sc.1 k := fun k z => by rw [c2 k (by omega), y3 k (by omega), k1 k (by omega) (by omega) (by omega)]
      refine RR_fin hq ⟨n', A', B', C', Kd', P', X', Y', ?_, hD'.2.2.2.1, c3, fun s hs => ?_, ⟨?_, hP', fun p hpp => ?_⟩, ?_, ⟨by omega, fun s hs => ?_, hD'.2.2.1⟩, ⟨?_, hP', fun p hpp => ?_⟩⟩ (c4 0 (by omega)) ?_ (fun k z => c4 k (by omega)) k5 (fun j z => ?_) (fun k z => ?_)
      · unfold cL at *
        rw [c2 1 (by omega), c2 3 (by omega), c2 4 (by omega), c2 5 (by omega)]; exact hcL
      · obtain ⟨d1, -, -, -⟩ := y6 s (by omega)
        rw [c2 2 (by omega), k7 1 (by omega)]
        refine ⟨Eq.trans d1 ?_, (hdM'.2.2.1 s hs).1, hD'.2.2.2.2.1 s hs⟩
        rw [k9 (8 + 1) (by omega)]; exact (hdC'.2.2.1 s hs).1
      · rw [c2 1 (by omega), y5, k9 8 (by omega)]; exact hdC'.2.1
      · obtain ⟨d1, d2⟩ := y7 p (by omega)
        rw [c2 6 (by omega), c2 7 (by omega)]
        refine ⟨Eq.trans d1 ?_, Eq.trans d2 ?_, (hD'.2.2.2.2.2 p hpp).1, (hD'.2.2.2.2.2 p hpp).2⟩
        · rw [k9 (8 + 5) (by omega)]; exact (hdC'.2.2.2 p hpp).1
        · rw [k9 (8 + 6) (by omega)]; exact (hdC'.2.2.2 p hpp).2
      · rw [k6 0 (by omega)]; exact hdM'.1
      · rw [k7 2 (by omega), k7 3 (by omega), k7 4 (by omega)]; exact (hdM'.2.2.1 s hs).2
      · rw [k6 5 (by omega)]; exact hdM'.2.1
      · rw [k7 6 (by omega), k7 7 (by omega)]
        exact ⟨(hdM'.2.2.2 p hpp).1, (hdM'.2.2.2 p hpp).2, (hD'.2.2.2.2.2 p hpp).1, (hD'.2.2.2.2.2 p hpp).2⟩
      · rw [c2 28 (by omega), y3 28 (by omega)]; exact k2
      · rw [k6 j (by omega), z4.2 j (by omega) (by omega) (by omega), b1 j (by omega)]
      · rw [k7 k (by omega), z4.1 k (by omega) (by omega), b0 k (by omega) (by omega) (by omega)]
end
section
/-! temporary: words of the machine parts -/
def xs_0 : XS := (fun _ _ => 0, fun _ => 0)
def xz_step_letter (R : XS → XS → Prop) : Prop := ∀ (sc sm : XS) (x1 : Int32), R sc sm → ∃ (r : Int32) (sc2 sm2 : XS), F_All_letter x1 sc = some (r, sc2) ∧ F_Mod_letter x1 sm = some (r, sm2) ∧ R sc2 sm2
def xz_step_town (R : XS → XS → Prop) : Prop := ∀ (sc sm : XS), R sc sm → ∃ (r : Int32) (sc2 sm2 : XS), F_All_town sc = some (r, sc2) ∧ F_Mod_town sm = some (r, sm2) ∧ R sc2 sm2
def xz_step_street (R : XS → XS → Prop) : Prop := ∀ (sc sm : XS) (x1 x2 : Int32), R sc sm → ∃ (r : Int32) (sc2 sm2 : XS), F_All_street x1 x2 sc = some (r, sc2) ∧ F_Mod_street x1 x2 sm = some (r, sm2) ∧ R sc2 sm2
def xz_step_plot (R : XS → XS → Prop) : Prop := ∀ (sc sm : XS) (x1 x2 : Int32), R sc sm → ∃ (r : Int32) (sc2 sm2 : XS), F_All_plot x1 x2 sc = some (r, sc2) ∧ F_Mod_plot x1 x2 sm = some (r, sm2) ∧ R sc2 sm2
def xz_step_crossing (R : XS → XS → Prop) : Prop := ∀ (sc sm : XS) (x1 x2 x3 : Int32), R sc sm → ∃ (r : Int32) (sc2 sm2 : XS), F_All_crossing x1 x2 x3 sc = some (r, sc2) ∧ F_Mod_crossing x1 x2 x3 sm = some (r, sm2) ∧ R sc2 sm2
def xz_step_quarters (R : XS → XS → Prop) : Prop := ∀ (sc sm : XS), R sc sm → ∃ (r : Int32) (sc2 sm2 : XS), F_All_quarters sc = some r ∧ F_Mod_quarters sm = some (r, sm2) ∧ R sc2 sm2 ∧ sc = sc2
def xz_step_open (R : XS → XS → Prop) : Prop := ∀ (sc sm : XS), R sc sm → ∃ (r : Int32) (sc2 sm2 : XS), F_All_open sc = some r ∧ F_Mod_open sm = some (r, sm2) ∧ R sc2 sm2 ∧ sc = sc2
def xz_step_with (R : XS → XS → Prop) : Prop := ∀ (sc sm : XS) (x1 : Int32), R sc sm → ∃ (r : Int32) (sc2 sm2 : XS), F_All_with x1 sc = some (r, sc2) ∧ F_Mod_with x1 sm = some (r, sm2) ∧ R sc2 sm2
def xz_step_corners (R : XS → XS → Prop) : Prop := ∀ (sc sm : XS) (x1 : Int32), R sc sm → ∃ (r : Int32) (sc2 sm2 : XS), F_All_corners x1 sc = some (r, sc2) ∧ F_Mod_corners x1 sm = some (r, sm2) ∧ R sc2 sm2
def xz_step_sides (R : XS → XS → Prop) : Prop := ∀ (sc sm : XS) (x1 : Int32), R sc sm → ∃ (r : Int32) (sc2 sm2 : XS), F_All_sides x1 sc = some (r, sc2) ∧ F_Mod_sides x1 sm = some (r, sm2) ∧ R sc2 sm2
def xz_step_isOpen (R : XS → XS → Prop) : Prop := ∀ (sc sm : XS) (x1 : Int32), R sc sm → ∃ (r : Int32) (sc2 sm2 : XS), F_All_isOpen x1 sc = some (r, sc2) ∧ F_Mod_isOpen x1 sm = some (r, sm2) ∧ R sc2 sm2
def xz_step_whole (R : XS → XS → Prop) : Prop := ∀ (sc sm : XS), R sc sm → ∃ (r : Int32) (sc2 sm2 : XS), F_All_whole sc = some r ∧ F_Mod_whole sm = some (r, sm2) ∧ R sc2 sm2 ∧ sc = sc2
def xz_step_points (R : XS → XS → Prop) : Prop := ∀ (sc sm : XS) (x1 : Int32), R sc sm → ∃ (r : Int32) (sc2 sm2 : XS), F_All_points x1 sc = some (r, sc2) ∧ F_Mod_points x1 sm = some (r, sm2) ∧ R sc2 sm2
def xz_step_lamps (R : XS → XS → Prop) : Prop := ∀ (sc sm : XS), R sc sm → ∃ (r : Int32) (sc2 sm2 : XS), F_All_lamps sc = some r ∧ F_Mod_lamps sm = some r ∧ R sc2 sm2 ∧ sc = sc2 ∧ sm = sm2
def xz_step_where (R : XS → XS → Prop) : Prop := ∀ (sc sm : XS) (x1 : Int32), R sc sm → ∃ (r : Int32) (sc2 sm2 : XS), F_All_where x1 sc = some (r, sc2) ∧ F_Mod_where x1 sm = some (r, sm2) ∧ R sc2 sm2
def xz_step_together (R : XS → XS → Prop) : Prop := ∀ (sc sm : XS) (x1 : Int32), R sc sm → ∃ (r : Int32) (sc2 sm2 : XS), F_All_together x1 sc = some (r, sc2) ∧ F_Mod_together x1 sm = some (r, sm2) ∧ R sc2 sm2
def xz_step_steps (R : XS → XS → Prop) : Prop := ∀ (sc sm : XS) (x1 x2 : Int32), R sc sm → ∃ (r : Int32) (sc2 sm2 : XS), F_All_steps x1 x2 sc = some (r, sc2) ∧ F_Mod_steps x1 x2 sm = some (r, sm2) ∧ R sc2 sm2
def xz_step_next (R : XS → XS → Prop) : Prop := ∀ (sc sm : XS) (x1 x2 x3 x4 : Int32), R sc sm → ∃ (r : Int32) (sc2 sm2 : XS), F_All_next x1 x2 x3 x4 sc = some (r, sc2) ∧ F_Mod_next x1 x2 x3 x4 sm = some (r, sm2) ∧ R sc2 sm2
def xz_step_through (R : XS → XS → Prop) : Prop := ∀ (sc sm : XS) (x1 x2 x3 : Int32), R sc sm → ∃ (r : Int32) (sc2 sm2 : XS), F_All_through x1 x2 x3 sc = some (r, sc2) ∧ F_Mod_through x1 x2 x3 sm = some (r, sm2) ∧ R sc2 sm2
def xz_step_spare (R : XS → XS → Prop) : Prop := ∀ (sc sm : XS) (x1 x2 : Int32), R sc sm → ∃ (r : Int32) (sc2 sm2 : XS), F_All_spare x1 x2 sc = some (r, sc2) ∧ F_Mod_spare x1 x2 sm = some (r, sm2) ∧ R sc2 sm2
def xz_step_most (R : XS → XS → Prop) : Prop := ∀ (sc sm : XS) (x1 x2 : Int32), R sc sm → ∃ (r : Int32) (sc2 sm2 : XS), F_All_most x1 x2 sc = some (r, sc2) ∧ F_Mod_most x1 x2 sm = some (r, sm2) ∧ R sc2 sm2
def xz_step_fear (R : XS → XS → Prop) : Prop := ∀ (sc sm : XS) (x1 x2 : Int32), R sc sm → ∃ (r : Int32) (sc2 sm2 : XS), F_All_fear x1 x2 sc = some (r, sc2) ∧ F_Mod_fear x1 x2 sm = some (r, sm2) ∧ R sc2 sm2
def xz_step_taken (R : XS → XS → Prop) : Prop := ∀ (sc sm : XS) (x1 : Int32), R sc sm → ∃ (r : Int32) (sc2 sm2 : XS), F_All_taken x1 sc = some (r, sc2) ∧ F_Mod_taken x1 sm = some (r, sm2) ∧ R sc2 sm2
def xz_step_row (R : XS → XS → Prop) : Prop := ∀ (sc sm : XS) (x1 : Int32), R sc sm → ∃ (r : Int32) (sc2 sm2 : XS), F_All_row x1 sc = some (r, sc2) ∧ F_Mod_row x1 sm = some (r, sm2) ∧ R sc2 sm2
def xz_step_judge (R : XS → XS → Prop) : Prop := ∀ (sc sm : XS), R sc sm → ∃ (r : Int32) (sc2 sm2 : XS), F_All_judge sc = some (r, sc2) ∧ F_Mod_judge sm = some (r, sm2) ∧ R sc2 sm2
def xz_step_seeds (R : XS → XS → Prop) : Prop := ∀ (sc sm : XS) (x1 x2 : Int32), R sc sm → ∃ (r : Int32) (sc2 sm2 : XS), F_All_seeds x1 x2 sc = some (r, sc2) ∧ F_Mod_seeds x1 x2 sm = some (r, sm2) ∧ R sc2 sm2
def xz_step_image (R : XS → XS → Prop) : Prop := ∀ (sc sm : XS), R sc sm → ∃ (r : Int32) (sc2 sm2 : XS), F_All_image sc = some (r, sc2) ∧ F_Mod_image sm = some (r, sm2) ∧ R sc2 sm2
def xz_step_on (R : XS → XS → Prop) : Prop := ∀ (sc sm : XS), R sc sm → ∃ (r : Int32) (sc2 sm2 : XS), F_All_on sc = some (r, sc2) ∧ F_Mod_on sm = some (r, sm2) ∧ R sc2 sm2
def xz_step_count (R : XS → XS → Prop) : Prop := ∀ (sc sm : XS) (x1 : Int32), R sc sm → ∃ (r : Int32) (sc2 sm2 : XS), F_All_count x1 sc = some r ∧ F_Mod_count x1 sm = some r ∧ R sc2 sm2 ∧ sc = sc2 ∧ sm = sm2
def xz_steps (R : XS → XS → Prop) : Prop := xz_step_letter R ∧ xz_step_town R ∧ xz_step_street R ∧ xz_step_plot R ∧ xz_step_crossing R ∧ xz_step_quarters R ∧ xz_step_open R ∧ xz_step_with R ∧ xz_step_corners R ∧ xz_step_sides R ∧ xz_step_isOpen R ∧ xz_step_whole R ∧ xz_step_points R ∧ xz_step_lamps R ∧ xz_step_where R ∧ xz_step_together R ∧ xz_step_steps R ∧ xz_step_next R ∧ xz_step_through R ∧ xz_step_spare R ∧ xz_step_most R ∧ xz_step_fear R ∧ xz_step_taken R ∧ xz_step_row R ∧ xz_step_judge R ∧ xz_step_seeds R ∧ xz_step_image R ∧ xz_step_on R ∧ xz_step_count R
end
section
/-! the beginning, and every call -/
theorem xz_init : ∃ st9, F_Pla_measure xs_0 = some st9 ∧ xz_RR st9 xs_0 := by
  have hc : cL xs_0 0 (fun _ => 0) (fun _ => 0) (fun _ => 0) := ⟨rfl, by omega, fun s hs => absurd hs (Nat.not_lt_zero s), fun s hs => absurd hs (Nat.not_lt_zero s)⟩
  obtain ⟨t, h1, h2, h3⟩ := e_measure hc
  have hz : ∀ k j, k < 22 ∨ 27 < k → t.1 k j = 0 := fun k j hk => by rw [h2 k hk]; rfl
  refine ⟨t, h1, ⟨0, fun _ => 0, fun _ => 0, fun _ => 0, fun _ => 0, 0, fun _ => 0, fun _ => 0, ?_, ⟨fun s hs => absurd hs (Nat.not_lt_zero s), fun i j hi => absurd hi (Nat.not_lt_zero i)⟩, h3, fun s hs => absurd hs (Nat.not_lt_zero s), ⟨hz 1 7 (by omega), by omega, fun p hp => absurd hp (Nat.not_lt_zero p)⟩, rfl, ⟨by omega, fun s hs => absurd hs (Nat.not_lt_zero s), fun s hs => absurd hs (Nat.not_lt_zero s)⟩, ⟨rfl, by omega, fun p hp => absurd hp (Nat.not_lt_zero p)⟩⟩, ⟨0, by omega, hz 28 1 (by omega), rfl, fun i hi => absurd hi (Nat.not_lt_zero i)⟩, ⟨0, by omega, hz 0 7 (by omega), rfl, fun i hi => absurd hi (Nat.not_lt_zero i)⟩, fun i _ => hz 32 i (by omega), Or.inl ⟨hz 0 3 (by omega), rfl⟩⟩
  exact ⟨hz 1 4 (by omega), by omega, fun s hs => absurd hs (Nat.not_lt_zero s), fun s hs => absurd hs (Nat.not_lt_zero s)⟩
theorem xz_all : xz_steps xz_RR := ⟨s_letter, s_town, s_street, s_plot, s_crossing, s_quarters, s_open, s_with, s_corners, s_sides, s_isOpen, s_whole, s_points, s_lamps, s_where, s_together, s_steps, s_next, s_through, s_spare, s_most, s_fear, s_taken, s_row, s_judge, s_seeds, s_image, s_on, s_count⟩
end
