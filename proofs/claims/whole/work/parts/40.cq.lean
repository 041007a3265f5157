/-! the class's questions about its points -/
theorem ls_sm_at (w : Nat × Nat → Nat) : ∀ L : List (Nat × Nat), fb_sm (fun k => w (L.getD k (0, 0))) L.length = ls_sm w L
  | [] => rfl
  | x :: l => by
    have h := ls_sm_at w l
    have e : (x :: l).length = 1 + l.length := by simp; omega
    rw [e, fb_sm_split, ls_sm, ← h]
    congr 1
    · simp [fb_sm]
    · apply fb_sm_cong
      intro k _
      rw [Nat.add_comm 1 k]
      simp
def fb_mx (f : Nat → Nat) : Nat → Nat
  | 0 => 0
  | n + 1 => if fb_mx f n < f n then f n else fb_mx f n
theorem fb_mx_suc (f : Nat → Nat) (n : Nat) : fb_mx f (n + 1) = if fb_mx f n < f n then f n else fb_mx f n := rfl
theorem fb_mx_le {f : Nat → Nat} {m : Nat} : ∀ {n : Nat}, fb_mx f n ≤ m ↔ ∀ k, k < n → f k ≤ m
  | 0 => ⟨fun _ k hk => absurd hk (Nat.not_lt_zero k), fun _ => Nat.zero_le m⟩
  | n + 1 => by
    rw [fb_mx_suc]
    have h := fb_mx_le (f := f) (m := m) (n := n)
    constructor
    · intro hm k hk
      by_cases e : k = n
      · subst e
        split at hm <;> omega
      · refine h.mp ?_ k (by omega)
        split at hm <;> omega
    · intro hm
      have h1 := h.mpr (fun k hk => hm k (by omega))
      have h2 := hm n (by omega)
      split <;> omega
theorem fb_mx_lub {x y : Nat} (h : ∀ m, x ≤ m ↔ y ≤ m) : x = y := Nat.le_antisymm ((h y).mpr (Nat.le_refl y)) ((h x).mp (Nat.le_refl x))
theorem zI_ifs (c : Prop) [Decidable c] (a : Nat) : zI ((if c then a + 1 else a : Nat) : Int) = if c then zI (a : Int) + 1 else zI (a : Int) := by
  by_cases h : c
  · rw [if_pos h, if_pos h, zI_suc]
  · rw [if_neg h, if_neg h]
theorem zI_addn (a b : Nat) : zI (a : Int) + zI (b : Int) = zI ((a + b : Nat) : Int) := by rw [zI_add]; rfl
theorem gp_th_le (A B C : Nat → Int) (n : Nat) (x : Nat × Nat) : gp_th A B C n x ≤ n := fb_ct_le _ n
theorem e_squares {st : XS} {n : Nat} {A B C : Nat → Int} {L : List (Nat × Nat)} (h6 : n ≤ 6) (hP : gP A B C n st L) (hl : L.length ≤ 15) : F_Pla_squares st = some (zI ((ls_sm (fun x => if 3 ≤ gp_th A B C n x then 1 else 0) L : Nat) : Int)) := by
  unfold F_Pla_squares
  have e0 : ls_sm (fun x => if 3 ≤ gp_th A B C n x then 1 else 0) L = fb_ct (fun k => decide (3 ≤ gp_th A B C n (L.getD k (0, 0)))) L.length := by
    rw [ls_ct (fun x => decide (3 ≤ gp_th A B C n x))]
    congr 1
    funext x
    simp
  rw [e0, lp_cnt (fun k => decide (3 ≤ gp_th A B C n (L.getD k (0, 0)))) L.length (by omega) (fun k c hk => ?_) (fun c => ?_)]
  · unfold F_Pla_squares_b4
    dsimp only
    rw [hP.1, if_neg (zI_ge1 (by omega) hk), e_isSq h6 hP hl hk, Option.bind_some, xo_nm_b, xo_nm_b, xo_nm_b, zI_suc, zI_suc]
    by_cases hg : 3 ≤ gp_th A B C n (L.getD k (0, 0))
    · rw [if_pos hg, if_neg (by decide), if_pos (decide_eq_true hg)]
    · rw [if_neg hg, if_pos (show zI 0 = 0 from rfl), if_neg (by simpa using hg)]; rfl
  · unfold F_Pla_squares_b4
    dsimp only
    rw [hP.1, if_pos (zI_rfl _)]
theorem e_mostMeet {st : XS} {n : Nat} {A B C : Nat → Int} {L : List (Nat × Nat)} (h6 : n ≤ 6) (hP : gP A B C n st L) (hl : L.length ≤ 15) : F_Pla_mostMeeting st = some (zI ((fb_mx (fun k => gp_th A B C n (L.getD k (0, 0))) L.length : Nat) : Int)) := by
  unfold F_Pla_mostMeeting
  refine (lp_go (fun i => (zI ((fb_mx (fun k => gp_th A B C n (L.getD k (0, 0))) i : Nat) : Int), zI (i : Int))) L.length (zI ((fb_mx (fun k => gp_th A B C n (L.getD k (0, 0))) L.length : Nat) : Int)) rfl (by omega) (fun k hk => ?_) ?_).trans rfl
  · unfold F_Pla_mostMeeting_b4
    dsimp only
    obtain ⟨-, -, -, g4, -⟩ := gP_at hP hk
    have hb : bm (fun s => decide (gz_p A B C (L.getD k (0, 0)).1 (L.getD k (0, 0)).2 s = 0)) n < 64 := Nat.lt_of_lt_of_le (bm_lt _ n) (p2_64 h6)
    have hm : fb_mx (fun k => gp_th A B C n (L.getD k (0, 0))) k ≤ n := fb_mx_le.mpr (fun j _ => gp_th_le A B C n _)
    have ht := gp_th_le A B C n (L.getD k (0, 0))
    rw [hP.1, if_neg (zI_ge1 (by omega) hk), xo_rd_z (by omega) (by decide), Option.bind_some, g4, e_icount _ (by omega), Option.bind_some, ct_bm _ (by omega), xo_nm_b, xo_nm_b, zI_suc, fb_mx_suc]
    have e : fb_ct (fun s => decide (gz_p A B C (L.getD k (0, 0)).1 (L.getD k (0, 0)).2 s = 0)) n = gp_th A B C n (L.getD k (0, 0)) := rfl
    rw [e]
    congr 3
    by_cases hc : fb_mx (fun k => gp_th A B C n (L.getD k (0, 0))) k < gp_th A B C n (L.getD k (0, 0))
    · rw [if_pos (by rw [zI_lt (zB_n (by omega)) (zB_n (by omega))]; omega), if_pos hc]
    · rw [if_neg (by rw [zI_lt (zB_n (by omega)) (zB_n (by omega))]; omega), if_neg hc]
  · unfold F_Pla_mostMeeting_b4
    dsimp only
    rw [hP.1, if_pos (zI_rfl _)]
def gp_on (A B C : Nat → Int) (p q r : Int) (x : Nat × Nat) : Bool := decide (p * gz_X A B C (A x.1) (B x.1) (C x.1) x.2 + q * gz_Y A B C (A x.1) (B x.1) (C x.1) x.2 = r * gz_W A B (A x.1) (B x.1) x.2)
theorem gp_ls_lt {A B C : Nat → Int} {n k : Nat} (hk : k < (gp_ls A B C n n).length) : ((gp_ls A B C n n).getD k (0, 0)).1 < ((gp_ls A B C n n).getD k (0, 0)).2 ∧ ((gp_ls A B C n n).getD k (0, 0)).2 < n ∧ gp_f A B C ((gp_ls A B C n n).getD k (0, 0)).1 ((gp_ls A B C n n).getD k (0, 0)).2 = true := by
  have hm : (gp_ls A B C n n).getD k (0, 0) ∈ gp_ls A B C n n := by
    rw [List.getD, List.getElem?_eq_getElem hk]
    exact List.getElem_mem hk
  exact ((gp_ls_mem (Nat.le_refl n)).mp hm).2
theorem e_pointsOn {st : XS} {n : Nat} {A B C : Nat → Int} (h : cL st n A B C) (hP : gP A B C n st (gp_ls A B C n n)) {p q r : Int} (hp : ab 9 p) (hq : ab 9 q) (hr : ab 99 r) : F_Pla_pointsOn (zI p) (zI q) (zI r) st = some (zI ((ls_sm (fun x => if gp_on A B C p q r x then 1 else 0) (gp_ls A B C n n) : Nat) : Int)) := by
  have h6 := h.2.1
  have h15 := gp_ls_15 A B C h6
  have hlt := fun k hk => gp_ls_lt (A := A) (B := B) (C := C) (n := n) (k := k) hk
  generalize hL : gp_ls A B C n n = L at *
  unfold F_Pla_pointsOn
  rw [lp_cnt (fun k => gp_on A B C p q r (L.getD k (0, 0))) L.length (by omega) (fun k c hk => ?_) (fun c => ?_), ls_ct]
  · unfold F_Pla_pointsOn_b6
    dsimp only
    obtain ⟨g1, g2, g3, -, -⟩ := gP_at hP hk
    obtain ⟨l1, l2, -⟩ := hlt k hk
    rw [hP.1, if_neg (zI_ge1 (by omega) hk), xo_rd_z (by omega) (by decide), Option.bind_some, xo_rd_z (by omega) (by decide), Option.bind_some, xo_rd_z (by omega) (by decide), Option.bind_some, g1, g2, g3]
    generalize L.getD k (0, 0) = x at *
    obtain ⟨b1, b2, b3⟩ := h.2.2.2 x.1 (by omega)
    obtain ⟨bX, bY, bW⟩ := gX_ab h.2.2.2 b1 b2 b3 l2
    rw [zI_mul, zI_mul, zI_mul, zI_add, xo_nm_b, xo_nm_b, xo_nm_b, zI_suc, zI_suc]
    have hc : (zI (p * gz_X A B C (A x.1) (B x.1) (C x.1) x.2 + q * gz_Y A B C (A x.1) (B x.1) (C x.1) x.2) = zI (r * gz_W A B (A x.1) (B x.1) x.2)) ↔ gp_on A B C p q r x = true := by
      rw [zI_eq (ab_B (ab_add (ab_mul hp bX) (ab_mul hq bY)) (by decide)) (ab_B (ab_mul hr bW) (by decide))]
      unfold gp_on
      rw [decide_eq_true_eq]
    by_cases hg : gp_on A B C p q r x = true
    · rw [if_pos (hc.mpr hg), if_pos hg]
    · rw [if_neg (fun z => hg (hc.mp z)), if_neg hg]; rfl
  · unfold F_Pla_pointsOn_b6
    dsimp only
    rw [hP.1, if_pos (zI_rfl _)]
