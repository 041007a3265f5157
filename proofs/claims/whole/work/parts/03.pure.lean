/-! THE PURE SIDE'S WORDS: a state is ints by (cell, place) and longs by number; reads and writes are checked; loops have fuel -/
abbrev XS : Type := (Nat → Nat → Int32) × (Nat → Int64)
def xs_A (s : XS) (k : Nat) (f : Nat → Int32) : XS := (fun k' => if k' = k then f else s.1 k', s.2)
def xs_I (s : XS) (k j : Nat) (v : Int32) : XS := (fun k' => if k' = k then upd (s.1 k) j v else s.1 k', s.2)
def xs_L (s : XS) (j : Nat) (v : Int64) : XS := (s.1, fun j' => if j' = j then v else s.2 j')
def xo_rd (f : Nat → Int32) (n : Nat) (i : Int32) : Option Int32 := if i < 0 then none else if n ≤ i.toNatClampNeg then none else some (f i.toNatClampNeg)
def xo_ck (n : Nat) (i : Int32) : Option Unit := if i < 0 then none else if n ≤ i.toNatClampNeg then none else some ()
def xo_dv (x y : Int32) : Option Int32 := if y = 0 then none else some (x / y)
def xo_rm (x y : Int32) : Option Int32 := if y = 0 then none else some (x - x / y * y)
def xo_cb (v : Int32) : Option Int32 := if v = 0 then some 0 else if v = 1 then some 1 else none
def xo_nm {α β : Type} (v : α) (f : α → Option β) : Option β := f v
def xo_bn {α β γ : Type} (x : Option (α × β)) (f : α → β → Option γ) : Option γ := x.bind fun q => f q.1 q.2
def xo_u2 {α β γ : Type} (f : α → β → Option γ) : α × β → Option γ := fun q => f q.1 q.2
def xo_u3 {α β δ γ : Type} (f : α → β → δ → Option γ) : α × β × δ → Option γ := fun q => f q.1 q.2.1 q.2.2
def xo_u4 {α β δ ε γ : Type} (f : α → β → δ → ε → Option γ) : α × β × δ × ε → Option γ := fun q => f q.1 q.2.1 q.2.2.1 q.2.2.2
def xo_u5 {α β δ ε ζ γ : Type} (f : α → β → δ → ε → ζ → Option γ) : α × β × δ × ε × ζ → Option γ := fun q => f q.1 q.2.1 q.2.2.1 q.2.2.2.1 q.2.2.2.2
def xo_lp {σ ρ : Type} (f : σ → Option (σ ⊕ ρ)) : Nat → σ → Option ρ
  | 0, _ => none
  | n + 1, x => (f x).bind (Sum.elim (xo_lp f n) some)
theorem xo_ob {α β : Type} {x : Option α} {f : α → Option β} {b : β} (h : x.bind f = some b) : ∃ a, x = some a ∧ f a = some b := by
  cases x with
  | none => cases h
  | some a => exact ⟨a, rfl, h⟩
theorem xo_ob2 {α β γ : Type} {x : Option (α × β)} {f : α → β → Option γ} {b : γ} (h : xo_bn x f = some b) : ∃ a c, x = some (a, c) ∧ f a c = some b := by
  cases x with
  | none => cases h
  | some a => exact ⟨a.1, a.2, rfl, h⟩
theorem xo_u2e {α β γ : Type} {f : α → β → Option γ} {a : α} {b : β} {r : Option γ} (h : xo_u2 f (a, b) = r) : f a b = r := h
theorem xo_u3e {α β δ γ : Type} {f : α → β → δ → Option γ} {a : α} {b : β} {d : δ} {r : Option γ} (h : xo_u3 f (a, b, d) = r) : f a b d = r := h
theorem xo_u4e {α β δ ε γ : Type} {f : α → β → δ → ε → Option γ} {a : α} {b : β} {d : δ} {e : ε} {r : Option γ} (h : xo_u4 f (a, b, d, e) = r) : f a b d e = r := h
theorem xo_u5e {α β δ ε ζ γ : Type} {f : α → β → δ → ε → ζ → Option γ} {a : α} {b : β} {d : δ} {e : ε} {z : ζ} {r : Option γ} (h : xo_u5 f (a, b, d, e, z) = r) : f a b d e z = r := h
theorem xo_elL {α β γ : Type} {f : α → Option γ} {g : β → Option γ} {a : α} {r : Option γ} (h : Sum.elim f g (.inl a) = r) : f a = r := h
theorem xo_elR {α β γ : Type} {f : α → Option γ} {g : β → Option γ} {a : β} {r : Option γ} (h : Sum.elim f g (.inr a) = r) : g a = r := h
theorem xo_rd_e {f : Nat → Int32} {n : Nat} {i v : Int32} (h : xo_rd f n i = some v) : vp_in i n ∧ f i.toNatClampNeg = v := by
  unfold xo_rd at h
  by_cases h1 : i < 0
  · rw [if_pos h1] at h; cases h
  · rw [if_neg h1] at h
    by_cases h2 : n ≤ i.toNatClampNeg
    · rw [if_pos h2] at h; cases h
    · rw [if_neg h2] at h
      exact ⟨fun q => q.elim h1 h2, Option.some.inj h⟩
theorem xo_ck_e {n : Nat} {i : Int32} {u : Unit} (h : xo_ck n i = some u) : vp_in i n := by
  unfold xo_ck at h
  by_cases h1 : i < 0
  · rw [if_pos h1] at h; cases h
  · rw [if_neg h1] at h
    by_cases h2 : n ≤ i.toNatClampNeg
    · rw [if_pos h2] at h; cases h
    · exact fun q => q.elim h1 h2
theorem xo_dv_e {x y v : Int32} (h : xo_dv x y = some v) : ¬ y = 0 ∧ x / y = v := by
  unfold xo_dv at h
  by_cases h1 : y = 0
  · rw [if_pos h1] at h; cases h
  · rw [if_neg h1] at h; exact ⟨h1, Option.some.inj h⟩
theorem xo_rm_e {x y v : Int32} (h : xo_rm x y = some v) : ¬ y = 0 ∧ x - x / y * y = v := by
  unfold xo_rm at h
  by_cases h1 : y = 0
  · rw [if_pos h1] at h; cases h
  · rw [if_neg h1] at h; exact ⟨h1, Option.some.inj h⟩
theorem xo_cb_e {v r : Int32} (h : xo_cb v = some r) : v = r ∧ (r = 0 ∨ r = 1) := by
  unfold xo_cb at h
  by_cases h1 : v = 0
  · rw [if_pos h1] at h; cases h; exact ⟨h1, Or.inl rfl⟩
  · rw [if_neg h1] at h
    by_cases h2 : v = 1
    · rw [if_pos h2] at h; cases h; exact ⟨h2, Or.inr rfl⟩
    · rw [if_neg h2] at h; cases h
theorem xo_nm_e {α β : Type} {v : α} {f : α → Option β} {b : β} (h : xo_nm v f = some b) : ∃ y, y = v ∧ f y = some b := ⟨v, rfl, h⟩
theorem xo_if_t {α : Type} {c : Prop} {inst : Decidable c} {a b r : α} (hc : c) (h : (@ite _ c inst a b) = r) : a = r := by rw [if_pos hc] at h; exact h
theorem xo_if_f {α : Type} {c : Prop} {inst : Decidable c} {a b r : α} (hc : ¬ c) (h : (@ite _ c inst a b) = r) : b = r := by rw [if_neg hc] at h; exact h
theorem xo_lp_s {σ ρ : Type} {f : σ → Option (σ ⊕ ρ)} {n : Nat} {x : σ} {r : ρ} (h : xo_lp f (n + 1) x = some r) : ∃ y, f x = some y ∧ Sum.elim (xo_lp f n) some y = some r := xo_ob h
theorem xo_nm_u {α β : Type} {v y : α} {f : α → Option β} {b : β} (h : xo_nm v f = some b) (e : y = v) : f y = some b := by subst e; exact h
theorem xo_s2 {α β : Type} {a c : α} {b d : β} (h : some (a, b) = some (c, d)) : a = c ∧ b = d := ⟨congrArg Prod.fst (Option.some.inj h), congrArg Prod.snd (Option.some.inj h)⟩
