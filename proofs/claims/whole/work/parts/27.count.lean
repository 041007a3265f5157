/-! COUNTING BITS, byte by byte -/
theorem bc_split (x m : Nat) : ∀ (x0 x1 m0 m1 : Nat), x0 < 256 → m0 < 256 → x = x0 + 256 * x1 → m = m0 + 256 * m1 → x &&& m = (x0 &&& m0) + 256 * (x1 &&& m1) := by
  intro x0 x1 m0 m1 hx hm ex em
  have h1 := Nat.and_mod_two_pow (a := x) (b := m) (n := 8)
  have h2 := Nat.and_div_two_pow (a := x) (b := m) (n := 8)
  have e1 : x % 2 ^ 8 = x0 := by omega
  have e2 : m % 2 ^ 8 = m0 := by omega
  have e3 : x / 2 ^ 8 = x1 := by omega
  have e4 : m / 2 ^ 8 = m1 := by omega
  rw [e1, e2] at h1
  rw [e3, e4] at h2
  omega
def bc_R (w : Nat) : Nat → Nat
  | 0 => 0
  | k + 1 => w + 256 * bc_R w k
def bc_pop (d : Nat) : Nat := fb_ct d.testBit 8
def bc_S : Nat → Nat → Nat
  | 0, _ => 0
  | k + 1, m => bc_pop (m % 256) + 256 * bc_S k (m / 256)
def bc_1 (M m : Nat) : Nat := m - (m / 2 &&& M)
def bc_2 (M m : Nat) : Nat := (m &&& M) + (m / 4 &&& M)
def bc_3 (M m : Nat) : Nat := m + m / 16 &&& M
theorem bc_t1 : ∀ d, d < 256 → ∀ b, b < 2 → (d / 2 + 128 * b) &&& 85 = d / 2 &&& 85 := by decide +kernel
theorem bc_t1s : ∀ d, d < 256 → d / 2 &&& 85 ≤ d ∧ d - (d / 2 &&& 85) < 256 := by decide +kernel
theorem bc_t2 : ∀ d, d < 256 → ∀ b, b < 4 → (d / 4 + 64 * b) &&& 51 = d / 4 &&& 51 := by decide +kernel
theorem bc_t2s : ∀ d, d < 256 → (bc_2 51 d) % 16 ≤ 6 ∧ bc_2 51 d ≤ 102 := by decide +kernel
theorem bc_t3 : ∀ d, d < 103 → d % 16 ≤ 6 → ∀ b, b < 7 → (d + d / 16 + 16 * b) &&& 15 = d + d / 16 &&& 15 := by decide +kernel
theorem bc_t4 : ∀ d, d < 256 → bc_3 15 (bc_2 51 (bc_1 85 d)) = bc_pop d := by decide +kernel
theorem bc_all : ∀ k m, m < 256 ^ k → (m / 2 &&& bc_R 85 k) ≤ m ∧ bc_1 (bc_R 85 k) m < 256 ^ k ∧ bc_2 (bc_R 51 k) (bc_1 (bc_R 85 k) m) % 16 ≤ 6 ∧ bc_3 (bc_R 15 k) (bc_2 (bc_R 51 k) (bc_1 (bc_R 85 k) m)) = bc_S k m := by
  intro k
  induction k with
  | zero =>
    intro m hm
    have : m = 0 := by simpa using hm
    subst this
    decide
  | succ k ih =>
    intro m hm
    have hp : 256 ^ (k + 1) = 256 * 256 ^ k := by rw [Nat.pow_succ]; omega
    obtain ⟨i1, i2, i3, i4⟩ := ih (m / 256) (by omega)
    have hd : m % 256 < 256 := Nat.mod_lt _ (by decide)
    generalize hD : m % 256 = d at hd
    generalize hM : m / 256 = m1 at i1 i2 i3 i4
    have em : m = d + 256 * m1 := by omega
    have a1 : m / 2 &&& bc_R 85 (k + 1) = (d / 2 &&& 85) + 256 * (m1 / 2 &&& bc_R 85 k) := by
      rw [bc_split (m / 2) (bc_R 85 (k + 1)) (d / 2 + 128 * (m1 % 2)) (m1 / 2) 85 (bc_R 85 k) (by omega) (by decide) (by omega) rfl, bc_t1 d hd _ (by omega)]
    have a2 := bc_t1s d hd
    have a3 : bc_1 (bc_R 85 (k + 1)) m = bc_1 85 d + 256 * bc_1 (bc_R 85 k) m1 := by
      unfold bc_1; rw [a1]; omega
    have a4 : bc_1 85 d < 256 := a2.2
    have a5 := bc_t4 d hd
    generalize bc_1 85 d = e at a3 a4 a5
    generalize bc_1 (bc_R 85 k) m1 = v at i2 i3 i4 a3
    generalize hv : bc_1 (bc_R 85 (k + 1)) m = V at a3
    have b1 : bc_2 (bc_R 51 (k + 1)) V = bc_2 51 e + 256 * bc_2 (bc_R 51 k) v := by
      unfold bc_2
      rw [bc_split V (bc_R 51 (k + 1)) e v 51 (bc_R 51 k) a4 (by decide) a3 rfl, bc_split (V / 4) (bc_R 51 (k + 1)) (e / 4 + 64 * (v % 4)) (v / 4) 51 (bc_R 51 k) (by omega) (by decide) (by omega) rfl, bc_t2 e a4 _ (by omega)]
      omega
    have b2 := bc_t2s e a4
    generalize bc_2 51 e = f at a5 b1 b2
    generalize bc_2 (bc_R 51 k) v = u at i3 i4 b1
    generalize hu : bc_2 (bc_R 51 (k + 1)) V = U at b1
    have c1 : bc_3 (bc_R 15 (k + 1)) U = bc_3 15 f + 256 * bc_3 (bc_R 15 k) u := by
      unfold bc_3
      rw [bc_split (U + U / 16) (bc_R 15 (k + 1)) (f + f / 16 + 16 * (u % 16)) (u + u / 16) 15 (bc_R 15 k) (by omega) (by decide) (by omega) rfl, bc_t3 f (by omega) b2.1 _ (by omega)]
    refine ⟨?_, ?_, ?_, ?_⟩
    · rw [a1]; omega
    · rw [a3]; omega
    · rw [b1]; omega
    · rw [c1, a5, i4]
      show _ = bc_pop (m % 256) + 256 * bc_S k (m / 256)
      rw [hD, hM]
theorem bc_pop_le (d : Nat) : bc_pop d ≤ 8 := fb_ct_le _ 8
def bc_T : Nat → Nat → Nat
  | 0, _ => 0
  | k + 1, m => bc_pop (m % 256) + bc_T k (m / 256)
theorem bc_T_ct : ∀ k m, bc_T k m = fb_ct m.testBit (8 * k)
  | 0, _ => rfl
  | k + 1, m => by
    have e : 8 * (k + 1) = 8 + 8 * k := by omega
    rw [bc_T, bc_T_ct k, e, fb_ct_split]
    congr 1
    · unfold bc_pop
      apply fb_ct_cong
      intro j hj
      have h := Nat.testBit_mod_two_pow m 8 j
      rw [show (256 : Nat) = 2 ^ 8 from rfl, h]
      simp [hj]
    · apply fb_ct_cong
      intro j _
      rw [show (256 : Nat) = 2 ^ 8 from rfl, Nat.testBit_div_two_pow, Nat.add_comm]
theorem bc_g8 {d0 R : Nat} (h0 : d0 < 256) : (d0 + 256 * R) / 2 ^ 8 = R := by omega
theorem bc_g16 {d0 d1 R : Nat} (h0 : d0 < 256) (h1 : d1 < 256) : (d0 + 256 * (d1 + 256 * R)) / 2 ^ 16 = R := by omega
theorem bc_g32 {d0 d1 d2 d3 R : Nat} (h0 : d0 < 256) (h1 : d1 < 256) (h2 : d2 < 256) (h3 : d3 < 256) : (d0 + 256 * (d1 + 256 * (d2 + 256 * (d3 + 256 * R)))) / 2 ^ 32 = R := by omega
theorem bc_bd {a R n : Nat} (h : a < 256) (hR : R < 256 ^ n) : a + 256 * R < 256 ^ (n + 1) := by rw [Nat.pow_succ]; omega
theorem bc_low {a R : Nat} (h : a < 128) : (a + 256 * R) % 128 = a := by omega
theorem bc_c4 {c0 c1 c2 c3 c4 c5 c6 c7 : Nat} (h0 : c0 ≤ 8) (h1 : c1 ≤ 8) (h2 : c2 ≤ 8) (h3 : c3 ≤ 8) (h4 : c4 ≤ 8) (h5 : c5 ≤ 8) (h6 : c6 ≤ 8) (h7 : c7 ≤ 8) : (c0 + 256 * (c1 + 256 * (c2 + 256 * (c3 + 256 * (c4 + 256 * (c5 + 256 * (c6 + 256 * (c7)))))))) + (c0 + 256 * (c1 + 256 * (c2 + 256 * (c3 + 256 * (c4 + 256 * (c5 + 256 * (c6 + 256 * (c7)))))))) / 2 ^ 8 = ((c0 + c1) + 256 * ((c1 + c2) + 256 * ((c2 + c3) + 256 * ((c3 + c4) + 256 * ((c4 + c5) + 256 * ((c5 + c6) + 256 * ((c6 + c7) + 256 * (c7)))))))) := by
  rw [bc_g8 (by omega)]; omega
theorem bc_c5 {c0 c1 c2 c3 c4 c5 c6 c7 : Nat} (h0 : c0 ≤ 8) (h1 : c1 ≤ 8) (h2 : c2 ≤ 8) (h3 : c3 ≤ 8) (h4 : c4 ≤ 8) (h5 : c5 ≤ 8) (h6 : c6 ≤ 8) (h7 : c7 ≤ 8) : ((c0 + c1) + 256 * ((c1 + c2) + 256 * ((c2 + c3) + 256 * ((c3 + c4) + 256 * ((c4 + c5) + 256 * ((c5 + c6) + 256 * ((c6 + c7) + 256 * (c7)))))))) + ((c0 + c1) + 256 * ((c1 + c2) + 256 * ((c2 + c3) + 256 * ((c3 + c4) + 256 * ((c4 + c5) + 256 * ((c5 + c6) + 256 * ((c6 + c7) + 256 * (c7)))))))) / 2 ^ 16 = (((c0 + c1) + (c2 + c3)) + 256 * (((c1 + c2) + (c3 + c4)) + 256 * (((c2 + c3) + (c4 + c5)) + 256 * (((c3 + c4) + (c5 + c6)) + 256 * (((c4 + c5) + (c6 + c7)) + 256 * (((c5 + c6) + c7) + 256 * ((c6 + c7) + 256 * (c7)))))))) := by
  rw [bc_g16 (by omega) (by omega)]; omega
theorem bc_c6 {c0 c1 c2 c3 c4 c5 c6 c7 : Nat} (h0 : c0 ≤ 8) (h1 : c1 ≤ 8) (h2 : c2 ≤ 8) (h3 : c3 ≤ 8) (h4 : c4 ≤ 8) (h5 : c5 ≤ 8) (h6 : c6 ≤ 8) (h7 : c7 ≤ 8) : (((c0 + c1) + (c2 + c3)) + 256 * (((c1 + c2) + (c3 + c4)) + 256 * (((c2 + c3) + (c4 + c5)) + 256 * (((c3 + c4) + (c5 + c6)) + 256 * (((c4 + c5) + (c6 + c7)) + 256 * (((c5 + c6) + c7) + 256 * ((c6 + c7) + 256 * (c7)))))))) + (((c0 + c1) + (c2 + c3)) + 256 * (((c1 + c2) + (c3 + c4)) + 256 * (((c2 + c3) + (c4 + c5)) + 256 * (((c3 + c4) + (c5 + c6)) + 256 * (((c4 + c5) + (c6 + c7)) + 256 * (((c5 + c6) + c7) + 256 * ((c6 + c7) + 256 * (c7)))))))) / 2 ^ 32 = ((((c0 + c1) + (c2 + c3)) + ((c4 + c5) + (c6 + c7))) + 256 * ((((c1 + c2) + (c3 + c4)) + ((c5 + c6) + c7)) + 256 * ((((c2 + c3) + (c4 + c5)) + (c6 + c7)) + 256 * ((((c3 + c4) + (c5 + c6)) + c7) + 256 * (((c4 + c5) + (c6 + c7)) + 256 * (((c5 + c6) + c7) + 256 * ((c6 + c7) + 256 * (c7)))))))) := by
  rw [bc_g32 (by omega) (by omega) (by omega) (by omega)]; omega
theorem bc_c7 {c0 c1 c2 c3 c4 c5 c6 c7 : Nat} (h0 : c0 ≤ 8) (h1 : c1 ≤ 8) (h2 : c2 ≤ 8) (h3 : c3 ≤ 8) (h4 : c4 ≤ 8) (h5 : c5 ≤ 8) (h6 : c6 ≤ 8) (h7 : c7 ≤ 8) : ((((c0 + c1) + (c2 + c3)) + ((c4 + c5) + (c6 + c7))) + 256 * ((((c1 + c2) + (c3 + c4)) + ((c5 + c6) + c7)) + 256 * ((((c2 + c3) + (c4 + c5)) + (c6 + c7)) + 256 * ((((c3 + c4) + (c5 + c6)) + c7) + 256 * (((c4 + c5) + (c6 + c7)) + 256 * (((c5 + c6) + c7) + 256 * ((c6 + c7) + 256 * (c7)))))))) < 2 ^ 64 ∧ ((((c0 + c1) + (c2 + c3)) + ((c4 + c5) + (c6 + c7))) + 256 * ((((c1 + c2) + (c3 + c4)) + ((c5 + c6) + c7)) + 256 * ((((c2 + c3) + (c4 + c5)) + (c6 + c7)) + 256 * ((((c3 + c4) + (c5 + c6)) + c7) + 256 * (((c4 + c5) + (c6 + c7)) + 256 * (((c5 + c6) + c7) + 256 * ((c6 + c7) + 256 * (c7)))))))) % 128 = c0 + (c1 + (c2 + (c3 + (c4 + (c5 + (c6 + (c7 + 0))))))) := by
  refine ⟨?_, ?_⟩
  · rw [show (2 : Nat) ^ 64 = 256 ^ 8 from by decide]
    exact bc_bd (by omega) (bc_bd (by omega) (bc_bd (by omega) (bc_bd (by omega) (bc_bd (by omega) (bc_bd (by omega) (bc_bd (by omega) (by omega)))))))
  · rw [bc_low (by omega)]
    omega
theorem bc_sum (m : Nat) : (bc_S 8 m + bc_S 8 m / 2 ^ 8) < 2 ^ 64 ∧ ∀ v4 v5 v6, v4 = bc_S 8 m + bc_S 8 m / 2 ^ 8 → v5 = v4 + v4 / 2 ^ 16 → v6 = v5 + v5 / 2 ^ 32 → v6 < 2 ^ 64 ∧ v6 % 128 = bc_T 8 m := by
  have key : ∀ v4 v5 v6, v4 = bc_S 8 m + bc_S 8 m / 2 ^ 8 → v5 = v4 + v4 / 2 ^ 16 → v6 = v5 + v5 / 2 ^ 32 → v6 < 2 ^ 64 ∧ v6 % 128 = bc_T 8 m := by
    intro v4 v5 v6 q4 q5 q6
    have p0 := bc_pop_le (m % 256)
    have p1 := bc_pop_le (m / 256 % 256)
    have p2 := bc_pop_le (m / 256 / 256 % 256)
    have p3 := bc_pop_le (m / 256 / 256 / 256 % 256)
    have p4 := bc_pop_le (m / 256 / 256 / 256 / 256 % 256)
    have p5 := bc_pop_le (m / 256 / 256 / 256 / 256 / 256 % 256)
    have p6 := bc_pop_le (m / 256 / 256 / 256 / 256 / 256 / 256 % 256)
    have p7 := bc_pop_le (m / 256 / 256 / 256 / 256 / 256 / 256 / 256 % 256)
    have r4 := bc_c4 p0 p1 p2 p3 p4 p5 p6 p7
    have q4' := q4.trans r4
    rw [q4', bc_c5 p0 p1 p2 p3 p4 p5 p6 p7] at q5
    rw [q5, bc_c6 p0 p1 p2 p3 p4 p5 p6 p7] at q6
    rw [q6]
    exact bc_c7 p0 p1 p2 p3 p4 p5 p6 p7
  refine ⟨?_, key⟩
  have := (key _ _ _ rfl rfl rfl).1
  omega
theorem bc_at {n : Nat} (j : Nat) (hn : n < 2 ^ 64) (hj : j < 64) {m : Nat} (hm : m < 2 ^ 64) : ((lN n).toUInt64 >>> ((nI j).toInt64.toUInt64 &&& Int64.toUInt64 63)).toInt64 &&& lN m = lN (n / 2 ^ j &&& m) := by
  rw [wb_shr hn hj, wb_and (Nat.lt_of_le_of_lt (Nat.div_le_self _ _) hn) hm]
theorem bc_k85 : (6148914691236517205 : Int64) = lN (bc_R 85 8) := by decide +kernel
theorem bc_k51 : (3689348814741910323 : Int64) = lN (bc_R 51 8) := by decide +kernel
theorem bc_k15 : (1085102592571150095 : Int64) = lN (bc_R 15 8) := by decide +kernel
theorem bc_kb : bc_R 85 8 < 2 ^ 64 ∧ bc_R 51 8 < 2 ^ 64 ∧ bc_R 15 8 < 2 ^ 64 := by decide
theorem bc_2b (M m : Nat) (h : m < 2 ^ 64) (hM : M < 2 ^ 62) : bc_2 M m < 2 ^ 64 := by
  have h1 : m &&& M ≤ M := Nat.and_le_right
  have h2 : m / 4 &&& M ≤ M := Nat.and_le_right
  unfold bc_2; omega
theorem xo_nm_b {α β : Type} (v : α) (f : α → Option β) : xo_nm v f = f v := rfl
theorem e_count (P : Nat → Bool) : F_Lng_bitCount (lS P) = some (zI ((fb_ct P 64 : Nat) : Int)) := by
  unfold lS
  have hm := bm64 P
  have hc : fb_ct P 64 = bc_T 8 (bm P 64) := by
    rw [bc_T_ct]
    apply fb_ct_cong
    intro k hk
    rw [bm_tb]; simp [hk]
  rw [hc]
  generalize bm P 64 = m at hm
  have h256 : (256 : Nat) ^ 8 = 2 ^ 64 := by decide
  obtain ⟨h1, h2, -, h4⟩ := bc_all 8 m (by omega)
  have hs := bc_sum m
  unfold F_Lng_bitCount
  have i1 : (1 : Int32) = nI 1 := rfl
  have i2 : (2 : Int32) = nI 2 := rfl
  have i4 : (4 : Int32) = nI 4 := rfl
  have i8 : (8 : Int32) = nI 8 := rfl
  have i16 : (16 : Int32) = nI 16 := rfl
  have i32 : (32 : Int32) = nI 32 := rfl
  have i127 : (127 : Int32) = nI 127 := rfl
  rw [bc_k85, bc_k51, bc_k15, i1, i2, i4, i8, i16, i32, i127]
  rw [bc_at 1 hm (by decide) bc_kb.1, show m / 2 ^ 1 = m / 2 from rfl, lN_sub h1, xo_nm_b]
  have g1 : m - (m / 2 &&& bc_R 85 8) = bc_1 (bc_R 85 8) m := rfl
  rw [g1]
  have b1 : bc_1 (bc_R 85 8) m < 2 ^ 64 := by rw [← g1]; omega
  generalize bc_1 (bc_R 85 8) m = v1 at *
  rw [bc_at 2 b1 (by decide) bc_kb.2.1, wb_and b1 bc_kb.2.1, lN_add, xo_nm_b]
  have g2 : (v1 &&& bc_R 51 8) + (v1 / 2 ^ 2 &&& bc_R 51 8) = bc_2 (bc_R 51 8) v1 := rfl
  rw [g2]
  have b2 : bc_2 (bc_R 51 8) v1 < 2 ^ 64 := bc_2b _ _ b1 (by decide)
  have b2' : bc_2 (bc_R 51 8) v1 < 2 ^ 63 := by
    have h1 : v1 &&& bc_R 51 8 ≤ bc_R 51 8 := Nat.and_le_right
    have h2 : v1 / 4 &&& bc_R 51 8 ≤ bc_R 51 8 := Nat.and_le_right
    have h3 : bc_R 51 8 < 2 ^ 62 := by decide
    unfold bc_2; omega
  generalize bc_2 (bc_R 51 8) v1 = v2 at *
  rw [wb_shr b2 (by decide), lN_add, wb_and (by omega) bc_kb.2.2, xo_nm_b]
  have g3 : (v2 + v2 / 2 ^ 4 &&& bc_R 15 8) = bc_3 (bc_R 15 8) v2 := rfl
  rw [g3, h4]
  have b3 : bc_S 8 m < 2 ^ 64 := by omega
  generalize hv : bc_S 8 m = v3 at *
  obtain ⟨hs0, hs1⟩ := hs
  rw [wb_shr b3 (by decide), lN_add, xo_nm_b]
  generalize h4' : v3 + v3 / 2 ^ 8 = v4 at *
  rw [wb_shr hs0 (by decide), lN_add, xo_nm_b]
  generalize h5' : v4 + v4 / 2 ^ 16 = v5 at *
  obtain ⟨k1, k2⟩ := hs1 v4 v5 _ rfl h5'.symm rfl
  have b5 : v5 < 2 ^ 64 := by omega
  rw [wb_shr b5 (by decide), lN_add, xo_nm_b, lN_i, fa_and, zI_n, ← k2]
  congr 2
  exact Nat.and_two_pow_sub_one_eq_mod _ 7
theorem e_icount : ∀ k : Nat, k < 256 → F_Int_bitCount (zI (k : Int)) = some (zI ((fb_ct k.testBit 8 : Nat) : Int)) := by decide +kernel
