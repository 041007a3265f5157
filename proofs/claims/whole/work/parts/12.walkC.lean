set_option maxHeartbeats 4000000 in
set_option maxRecDepth 100000 in
theorem c_Let_isFull (l : Launch) (D : va_G) (cI cZ : ClassId) (ad : Nat → Nat) (A : Nat → Prop) (adK adV : Nat → Nat) (hDw : ∀ st : XS, va_D A (xw_C ad cI cZ st)) (st : XS) (r9 : Int32) (hF : F_Let_isFull  st = some r9) : K_I l D cI cZ A adK adV (xw_C ad cI cZ) y_Let_isFull b_Let_isFull 1 (some .boolean) 0 0 [.ref (ad 28)] st r9 st := by
  refine xk_startI (by decide) .boolean rfl (Nat.le_of_ble_eq_true rfl) ?_
  intro p e s m args below meth c Q ls hx hb hml hown hts hK hE hP hS hl hret
  replace hown : s.vm.findClass R_Let = some m.cls := hown
  replace hl : lv_has ls 1 [(0, .ref (ad 28))] := hl
  unfold F_Let_isFull at hF
  refine lv_aload_n hx hb d_Let_isFull_0 rfl (lv_at hl 0 rfl) ?_
  refine xk_get (C := R_Let) (T := F_Let) (N := 5) hx hb hts i_Let hown hK hP 28 xw_C_at_28 rfl 1 (by decide) u_163 rfl d_Let_isFull_1 ?_
  refine lv_bipush (v := (96 : Int32)) hx hb d_Let_isFull_4 (by decide) ?_
  refine lv_icmp_lt (tgt := 13) hx hb d_Let_isFull_6 (by decide) (fun c_21 => ?_) (fun c_21 => ?_)
  · replace hF := xo_if_t c_21 hF
    refine lv_iconst (v := (0 : Int32)) hx hb d_Let_isFull_13 (by decide) ?_
    have q9 := Option.some.inj hF
    subst q9
    exact hret 14 _ _ _ d_Let_isFull_14 rfl hP hS
  · replace hF := xo_if_f c_21 hF
    refine lv_iconst (v := (1 : Int32)) hx hb d_Let_isFull_9 (by decide) ?_
    refine lv_goto (tgt := 14) hx hb d_Let_isFull_10 (by decide) ?_
    have q9 := Option.some.inj hF
    subst q9
    exact hret 14 _ _ _ d_Let_isFull_14 rfl hP hS
set_option maxHeartbeats 4000000 in
set_option maxRecDepth 100000 in
theorem c_Let_put (l : Launch) (D : va_G) (cI cZ : ClassId) (ad : Nat → Nat) (A : Nat → Prop) (adK adV : Nat → Nat) (hDw : ∀ st : XS, va_D A (xw_C ad cI cZ st)) (x1 : Int32) (st : XS) (r9 : Int32) (st9 : XS) (hF : F_Let_put x1 st = some (r9, st9)) : K_I l D cI cZ A adK adV (xw_C ad cI cZ) y_Let_put b_Let_put 2 (some .int) 1 20 [.ref (ad 28), .int x1] st r9 st9 := by
  refine xk_startI (by decide) .int rfl (Nat.le_of_ble_eq_true rfl) ?_
  intro p e s m args below meth c Q ls hx hb hml hown hts hK hE hP hS hl hret
  replace hown : s.vm.findClass R_Let = some m.cls := hown
  replace hl : lv_has ls 2 [(0, .ref (ad 28)), (1, .int x1)] := hl
  unfold F_Let_put at hF
  refine lv_aload_n hx hb d_Let_put_0 rfl (lv_at hl 0 rfl) ?_
  obtain ⟨v1, h_v1, hF⟩ := xo_ob hF
  refine xk_goI (xk_runV (As := []) (rest := []) hx hb hml hown hts hK hE (fun _ h => h) hP hS ok_Let_isFull in_Let_isFull u_278 (c_Let_isFull l D cI cZ ad A adK adV hDw st v1 h_v1) (va_recv hK hP (ci := 0) (q0 := 28) rfl xw_C_at_28) (by decide) rfl hl.1 rfl (Nat.le_of_ble_eq_true rfl) d_Let_put_1 ⟨Nat.le_refl _, Nat.le_refl _⟩) (fun _ h => h) hS (fun H locs hP hS => ?_)
  refine lv_if_ne (tgt := 27) hx hb d_Let_put_4 (by decide) (fun c_22 => ?_) (fun c_22 => ?_)
  · replace hF := xo_if_f c_22 hF
    refine lv_aload_n hx hb d_Let_put_27 rfl (lv_at hl 0 rfl) ?_
    refine xk_get (C := R_Let) (T := F_Let) (N := 5) hx hb hts i_Let hown hK hP 28 xw_C_at_28 rfl 1 (by decide) u_163 rfl d_Let_put_28 ?_
    obtain ⟨q8, q9⟩ := xo_s2 hF
    subst q8
    subst q9
    exact hret 31 _ _ _ d_Let_put_31 rfl hP hS
  · replace hF := xo_if_t c_22 hF
    refine lv_aload_n hx hb d_Let_put_7 rfl (lv_at hl 0 rfl) ?_
    refine xk_get (C := R_Let) (T := F_Let) (N := 5) hx hb hts i_Let hown hK hP 28 xw_C_at_28 rfl 0 (by decide) u_162 rfl d_Let_put_8 ?_
    refine lv_aload_n hx hb d_Let_put_11 rfl (lv_at hl 0 rfl) ?_
    refine xk_get (C := R_Let) (T := F_Let) (N := 5) hx hb hts i_Let hown hK hP 28 xw_C_at_28 rfl 1 (by decide) u_163 rfl d_Let_put_12 ?_
    refine lv_iload_n hx hb d_Let_put_15 rfl (lv_at hl 1 rfl) ?_
    obtain ⟨_, h_t2, hF⟩ := xo_ob hF
    obtain ⟨t2, e_t2, hF⟩ := xo_nm_e hF
    refine xk_iast hx hb hK hP (hDw _) hS 29 xw_C_at_29 h_t2 (xw_C_set_29 _) d_Let_put_16 (fun H locs hP hS => ?_)
    replace hP : va_P D classes (xw_C ad cI cZ t2) H := by rw [e_t2]; exact hP
    clear e_t2
    refine lv_aload_n hx hb d_Let_put_17 rfl (lv_at hl 0 rfl) ?_
    refine lv_dup hx hb d_Let_put_18 rfl ?_
    refine xk_get (C := R_Let) (T := F_Let) (N := 5) hx hb hts i_Let hown hK hP 28 xw_C_at_28 rfl 1 (by decide) u_163 rfl d_Let_put_19 ?_
    refine lv_iconst (v := (1 : Int32)) hx hb d_Let_put_22 (by decide) ?_
    refine lv_iadd hx hb d_Let_put_23 ?_
    obtain ⟨t3, e_t3, hF⟩ := xo_nm_e hF
    refine xk_put (C := R_Let) (T := F_Let) (N := 5) (ty := .int) hx hb hts i_Let t_Let t_Let_ok n_Let hown hK hP (hDw _) hS 28 xw_C_at_28 rfl 1 (by decide) u_163 rfl (by decide +kernel) rfl rfl (Nat.le_of_ble_eq_true rfl) (xw_C_put_28_1 _) d_Let_put_24 (fun H locs hP hS => ?_)
    replace hP : va_P D classes (xw_C ad cI cZ t3) H := by rw [e_t3]; exact hP
    clear e_t3
    refine lv_aload_n hx hb d_Let_put_27 rfl (lv_at hl 0 rfl) ?_
    refine xk_get (C := R_Let) (T := F_Let) (N := 5) hx hb hts i_Let hown hK hP 28 xw_C_at_28 rfl 1 (by decide) u_163 rfl d_Let_put_28 ?_
    obtain ⟨q8, q9⟩ := xo_s2 hF
    subst q8
    subst q9
    exact hret 31 _ _ _ d_Let_put_31 rfl hP hS
set_option maxHeartbeats 4000000 in
set_option maxRecDepth 100000 in
theorem c_Let_takes (l : Launch) (D : va_G) (cI cZ : ClassId) (ad : Nat → Nat) (A : Nat → Prop) (adK adV : Nat → Nat) (hDw : ∀ st : XS, va_D A (xw_C ad cI cZ st)) (x1 : Int32) (st : XS) (r9 : Int32) (st9 : XS) (hF : F_Let_takes x1 st = some (r9, st9)) : K_I l D cI cZ A adK adV (xw_C ad cI cZ) y_Let_takes b_Let_takes 3 (some .boolean) 0 0 [.ref (ad 28), .int x1] st r9 st9 := by
  refine xk_startI (by decide) .boolean rfl (Nat.le_of_ble_eq_true rfl) ?_
  intro p e s m args below meth c Q ls hx hb hml hown hts hK hE hP hS hl hret
  replace hown : s.vm.findClass R_Let = some m.cls := hown
  replace hl : lv_has ls 3 [(0, .ref (ad 28)), (1, .int x1)] := hl
  unfold F_Let_takes at hF
  have mg29 : ∀ (k0 : Int32) (xs : XS), F_Let_takes_m29 k0 xs = some (r9, st9) → ∀ (H : Heap) (locs : List Loc) (ls : Array Slot), va_P D classes (xw_C ad cI cZ xs) H → va_S A s.heap H locs → lv_has ls 3 [(0, .ref (ad 28))] → W p l e (xk_rm 0 0) s m args below meth c H locs 0 0 Q (F0 m 29 ls [.int k0]) := by
    intro k0 xs hF H locs ls hP hS hl
    unfold F_Let_takes_m29 at hF
    refine lv_istore_n (lv' := [(2, .int k0), (0, .ref (ad 28))]) hx hb d_Let_takes_29 rfl hl (by decide) rfl (fun ls hl => ?_)
    refine lv_iload_n hx hb d_Let_takes_30 rfl (lv_at hl 0 rfl) ?_
    refine lv_if_eq (tgt := 44) hx hb d_Let_takes_31 (by decide) (fun c_26 => ?_) (fun c_26 => ?_)
    · replace hF := xo_if_t c_26 hF
      refine lv_iload_n hx hb d_Let_takes_44 rfl (lv_at hl 0 rfl) ?_
      obtain ⟨v1, h_v1, hF⟩ := xo_ob hF
      obtain ⟨e_v1, h_v1⟩ := xo_cb_e h_v1
      refine W.eq (g2 := F0 m 45 _ [.int v1]) (by rw [e_v1]) ?_
      obtain ⟨q8, q9⟩ := xo_s2 hF
      subst q8
      subst q9
      exact hret 45 _ _ _ d_Let_takes_45 (by rcases h_v1 with h | h <;> rw [h] <;> rfl) hP hS
    · replace hF := xo_if_f c_26 hF
      refine lv_aload_n hx hb d_Let_takes_34 rfl (lv_at hl 1 rfl) ?_
      refine lv_dup hx hb d_Let_takes_35 rfl ?_
      refine xk_get (C := R_Let) (T := F_Let) (N := 5) hx hb hts i_Let hown hK hP 28 xw_C_at_28 rfl 2 (by decide) u_165 rfl d_Let_takes_36 ?_
      refine lv_iconst (v := (1 : Int32)) hx hb d_Let_takes_39 (by decide) ?_
      refine lv_iadd hx hb d_Let_takes_40 ?_
      obtain ⟨t2, e_t2, hF⟩ := xo_nm_e hF
      refine xk_put (C := R_Let) (T := F_Let) (N := 5) (ty := .int) hx hb hts i_Let t_Let t_Let_ok n_Let hown hK hP (hDw _) hS 28 xw_C_at_28 rfl 2 (by decide) u_165 rfl (by decide +kernel) rfl rfl (Nat.le_of_ble_eq_true rfl) (xw_C_put_28_2 _) d_Let_takes_41 (fun H locs hP hS => ?_)
      replace hP : va_P D classes (xw_C ad cI cZ t2) H := by rw [e_t2]; exact hP
      clear e_t2
      refine lv_iload_n hx hb d_Let_takes_44 rfl (lv_at hl 0 rfl) ?_
      obtain ⟨v3, h_v3, hF⟩ := xo_ob hF
      obtain ⟨e_v3, h_v3⟩ := xo_cb_e h_v3
      refine W.eq (g2 := F0 m 45 _ [.int v3]) (by rw [e_v3]) ?_
      obtain ⟨q8, q9⟩ := xo_s2 hF
      subst q8
      subst q9
      exact hret 45 _ _ _ d_Let_takes_45 (by rcases h_v3 with h | h <;> rw [h] <;> rfl) hP hS
  have mg28 : ∀ (xs : XS), F_Let_takes_m28 xs = some (r9, st9) → ∀ (H : Heap) (locs : List Loc) (ls : Array Slot), va_P D classes (xw_C ad cI cZ xs) H → va_S A s.heap H locs → lv_has ls 3 [(0, .ref (ad 28))] → W p l e (xk_rm 0 0) s m args below meth c H locs 0 0 Q (F0 m 28 ls []) := by
    intro xs hF H locs ls hP hS hl
    unfold F_Let_takes_m28 at hF
    refine lv_iconst (v := (0 : Int32)) hx hb d_Let_takes_28 (by decide) ?_
    exact mg29 _ _ hF _ _ _ hP hS (lv_sub hl [0] rfl)
  refine lv_aload_n hx hb d_Let_takes_0 rfl (lv_at hl 0 rfl) ?_
  refine xk_get (C := R_Let) (T := F_Let) (N := 5) hx hb hts i_Let hown hK hP 28 xw_C_at_28 rfl 2 (by decide) u_165 rfl d_Let_takes_1 ?_
  refine lv_aload_n hx hb d_Let_takes_4 rfl (lv_at hl 0 rfl) ?_
  refine xk_get (C := R_Let) (T := F_Let) (N := 5) hx hb hts i_Let hown hK hP 28 xw_C_at_28 rfl 1 (by decide) u_163 rfl d_Let_takes_5 ?_
  refine lv_icmp_ge (tgt := 28) hx hb d_Let_takes_8 (by decide) (fun c_27 => ?_) (fun c_27 => ?_)
  · replace hF := xo_if_t c_27 hF
    exact mg28 _ hF _ _ _ hP hS (lv_sub hl [0] rfl)
  · replace hF := xo_if_f c_27 hF
    refine lv_aload_n hx hb d_Let_takes_11 rfl (lv_at hl 0 rfl) ?_
    refine xk_get (C := R_Let) (T := F_Let) (N := 5) hx hb hts i_Let hown hK hP 28 xw_C_at_28 rfl 0 (by decide) u_162 rfl d_Let_takes_12 ?_
    refine lv_aload_n hx hb d_Let_takes_15 rfl (lv_at hl 0 rfl) ?_
    refine xk_get (C := R_Let) (T := F_Let) (N := 5) hx hb hts i_Let hown hK hP 28 xw_C_at_28 rfl 2 (by decide) u_165 rfl d_Let_takes_16 ?_
    obtain ⟨v4, h_v4, hF⟩ := xo_ob hF
    refine xk_iald hx hb hK hP 29 xw_C_at_29 h_v4 d_Let_takes_19 ?_
    refine lv_iload_n hx hb d_Let_takes_20 rfl (lv_at hl 1 rfl) ?_
    refine lv_icmp_ne (tgt := 28) hx hb d_Let_takes_21 (by decide) (fun c_28 => ?_) (fun c_28 => ?_)
    · replace hF := xo_if_f c_28 hF
      exact mg28 _ hF _ _ _ hP hS (lv_sub hl [0] rfl)
    · replace hF := xo_if_t c_28 hF
      refine lv_iconst (v := (1 : Int32)) hx hb d_Let_takes_24 (by decide) ?_
      refine lv_goto (tgt := 29) hx hb d_Let_takes_25 (by decide) ?_
      exact mg29 _ _ hF _ _ _ hP hS (lv_sub hl [0] rfl)
set_option maxHeartbeats 4000000 in
set_option maxRecDepth 100000 in
theorem c_Let_readKind (l : Launch) (D : va_G) (cI cZ : ClassId) (ad : Nat → Nat) (A : Nat → Prop) (adK adV : Nat → Nat) (hDw : ∀ st : XS, va_D A (xw_C ad cI cZ st)) (st : XS) (r9 : Int32) (st9 : XS) (hF : F_Let_readKind  st = some (r9, st9)) : K_I l D cI cZ A adK adV (xw_C ad cI cZ) y_Let_readKind b_Let_readKind 1 (some .boolean) 4 91 [.ref (ad 28)] st r9 st9 := by
  refine xk_startI (by decide) .boolean rfl (Nat.le_of_ble_eq_true rfl) ?_
  intro p e s m args below meth c Q ls hx hb hml hown hts hK hE hP hS hl hret
  replace hown : s.vm.findClass R_Let = some m.cls := hown
  replace hl : lv_has ls 1 [(0, .ref (ad 28))] := hl
  unfold F_Let_readKind at hF
  have mg31 : ∀ (k1 : Int32) (xs : XS), F_Let_readKind_m31 k1 xs = some (r9, st9) → ∀ (H : Heap) (locs : List Loc) (ls : Array Slot), va_P D classes (xw_C ad cI cZ xs) H → va_S A s.heap H locs → lv_has ls 1 [(0, .ref (ad 28))] → W p l e (xk_rm 4 91) s m args below meth c H locs 0 0 Q (F0 m 31 ls [.int k1, .ref (ad 28)]) := by
    intro k1 xs hF H locs ls hP hS hl
    unfold F_Let_readKind_m31 at hF
    obtain ⟨t1, e_t1, hF⟩ := xo_nm_e hF
    refine xk_put (C := R_Let) (T := F_Let) (N := 5) (ty := .int) hx hb hts i_Let t_Let t_Let_ok n_Let hown hK hP (hDw _) hS 28 xw_C_at_28 rfl 3 (by decide) u_166 rfl (by decide +kernel) rfl rfl (Nat.le_of_ble_eq_true rfl) (xw_C_put_28_3 _) d_Let_readKind_31 (fun H locs hP hS => ?_)
    replace hP : va_P D classes (xw_C ad cI cZ t1) H := by rw [e_t1]; exact hP
    clear e_t1
    refine lv_aload_n hx hb d_Let_readKind_34 rfl (lv_at hl 0 rfl) ?_
    refine xk_get (C := R_Let) (T := F_Let) (N := 5) hx hb hts i_Let hown hK hP 28 xw_C_at_28 rfl 3 (by decide) u_166 rfl d_Let_readKind_35 ?_
    refine lv_if_ge (tgt := 43) hx hb d_Let_readKind_38 (by decide) (fun c_39 => ?_) (fun c_39 => ?_)
    · replace hF := xo_if_t c_39 hF
      refine lv_aload_n hx hb d_Let_readKind_43 rfl (lv_at hl 0 rfl) ?_
      refine lv_dup hx hb d_Let_readKind_44 rfl ?_
      refine xk_get (C := R_Let) (T := F_Let) (N := 5) hx hb hts i_Let hown hK hP 28 xw_C_at_28 rfl 2 (by decide) u_165 rfl d_Let_readKind_45 ?_
      refine lv_iconst (v := (1 : Int32)) hx hb d_Let_readKind_48 (by decide) ?_
      refine lv_iadd hx hb d_Let_readKind_49 ?_
      obtain ⟨t2, e_t2, hF⟩ := xo_nm_e hF
      refine xk_put (C := R_Let) (T := F_Let) (N := 5) (ty := .int) hx hb hts i_Let t_Let t_Let_ok n_Let hown hK hP (hDw _) hS 28 xw_C_at_28 rfl 2 (by decide) u_165 rfl (by decide +kernel) rfl rfl (Nat.le_of_ble_eq_true rfl) (xw_C_put_28_2 _) d_Let_readKind_50 (fun H locs hP hS => ?_)
      replace hP : va_P D classes (xw_C ad cI cZ t2) H := by rw [e_t2]; exact hP
      clear e_t2
      refine lv_iconst (v := (1 : Int32)) hx hb d_Let_readKind_53 (by decide) ?_
      obtain ⟨q8, q9⟩ := xo_s2 hF
      subst q8
      subst q9
      exact hret 54 _ _ _ d_Let_readKind_54 rfl hP hS
    · replace hF := xo_if_f c_39 hF
      refine lv_iconst (v := (0 : Int32)) hx hb d_Let_readKind_41 (by decide) ?_
      obtain ⟨q8, q9⟩ := xo_s2 hF
      subst q8
      subst q9
      exact hret 42 _ _ _ d_Let_readKind_42 rfl hP hS
  refine lv_aload_n hx hb d_Let_readKind_0 rfl (lv_at hl 0 rfl) ?_
  refine lv_aload_n hx hb d_Let_readKind_1 rfl (lv_at hl 0 rfl) ?_
  refine xk_get (C := R_Let) (T := F_Let) (N := 5) hx hb hts i_Let hown hK hP 28 xw_C_at_28 rfl 2 (by decide) u_165 rfl d_Let_readKind_2 ?_
  refine lv_aload_n hx hb d_Let_readKind_5 rfl (lv_at hl 0 rfl) ?_
  refine xk_get (C := R_Let) (T := F_Let) (N := 5) hx hb hts i_Let hown hK hP 28 xw_C_at_28 rfl 1 (by decide) u_163 rfl d_Let_readKind_6 ?_
  refine lv_icmp_ge (tgt := 30) hx hb d_Let_readKind_9 (by decide) (fun c_40 => ?_) (fun c_40 => ?_)
  · replace hF := xo_if_t c_40 hF
    refine lv_iconst (v := (-1 : Int32)) hx hb d_Let_readKind_30 (by decide) ?_
    exact mg31 _ _ hF _ _ _ hP hS (lv_sub hl [0] rfl)
  · replace hF := xo_if_f c_40 hF
    refine va_ldcS hx hb hown hE.2.2.1 d_Let_readKind_12 ?_
    refine lv_aload_n hx hb d_Let_readKind_14 rfl (lv_at hl 0 rfl) ?_
    refine xk_get (C := R_Let) (T := F_Let) (N := 5) hx hb hts i_Let hown hK hP 28 xw_C_at_28 rfl 0 (by decide) u_162 rfl d_Let_readKind_15 ?_
    refine lv_aload_n hx hb d_Let_readKind_18 rfl (lv_at hl 0 rfl) ?_
    refine xk_get (C := R_Let) (T := F_Let) (N := 5) hx hb hts i_Let hown hK hP 28 xw_C_at_28 rfl 2 (by decide) u_165 rfl d_Let_readKind_19 ?_
    obtain ⟨v3, h_v3, hF⟩ := xo_ob hF
    refine xk_iald hx hb hK hP 29 xw_C_at_29 h_v3 d_Let_readKind_22 ?_
    refine lv_i2c (v := ((v3.toUInt32 % 65536).toInt32)) hx hb d_Let_readKind_23 rfl ?_
    obtain ⟨v4, h_v4, hF⟩ := xo_ob hF
    refine xk_goI (xk_runV (As := [.int ((v3.toUInt32 % 65536).toInt32)]) (rest := [.ref (ad 28)]) hx hb hml hown hts hK hE (fun _ h => h) hP hS ok_Str_indexOf1 in_Str_indexOf1 u_311 (c_Str_indexOf1 l D cI cZ (xw_C ad cI cZ) A adK adV ((v3.toUInt32 % 65536).toInt32) st v4 h_v4) (vk_recv hE.2.1 (by decide) hS) (by decide) rfl hl.1 rfl (Nat.le_of_ble_eq_true rfl) d_Let_readKind_24 ⟨Nat.le_refl _, Nat.le_refl _⟩) (fun _ h => h) hS (fun H locs hP hS => ?_)
    refine lv_goto (tgt := 31) hx hb d_Let_readKind_27 (by decide) ?_
    exact mg31 _ _ hF _ _ _ hP hS (lv_sub hl [0] rfl)
set_option maxHeartbeats 4000000 in
set_option maxRecDepth 100000 in
theorem c_Let_isDigit (l : Launch) (D : va_G) (cI cZ : ClassId) (ad : Nat → Nat) (A : Nat → Prop) (adK adV : Nat → Nat) (hDw : ∀ st : XS, va_D A (xw_C ad cI cZ st)) (st : XS) (r9 : Int32) (hF : F_Let_isDigit  st = some r9) : K_I l D cI cZ A adK adV (xw_C ad cI cZ) y_Let_isDigit b_Let_isDigit 1 (some .boolean) 0 0 [.ref (ad 28)] st r9 st := by
  refine xk_startI (by decide) .boolean rfl (Nat.le_of_ble_eq_true rfl) ?_
  intro p e s m args below meth c Q ls hx hb hml hown hts hK hE hP hS hl hret
  replace hown : s.vm.findClass R_Let = some m.cls := hown
  replace hl : lv_has ls 1 [(0, .ref (ad 28))] := hl
  unfold F_Let_isDigit at hF
  refine lv_aload_n hx hb d_Let_isDigit_0 rfl (lv_at hl 0 rfl) ?_
  refine xk_get (C := R_Let) (T := F_Let) (N := 5) hx hb hts i_Let hown hK hP 28 xw_C_at_28 rfl 2 (by decide) u_165 rfl d_Let_isDigit_1 ?_
  refine lv_aload_n hx hb d_Let_isDigit_4 rfl (lv_at hl 0 rfl) ?_
  refine xk_get (C := R_Let) (T := F_Let) (N := 5) hx hb hts i_Let hown hK hP 28 xw_C_at_28 rfl 1 (by decide) u_163 rfl d_Let_isDigit_5 ?_
  refine lv_icmp_ge (tgt := 43) hx hb d_Let_isDigit_8 (by decide) (fun c_41 => ?_) (fun c_41 => ?_)
  · replace hF := xo_if_t c_41 hF
    refine lv_iconst (v := (0 : Int32)) hx hb d_Let_isDigit_43 (by decide) ?_
    have q9 := Option.some.inj hF
    subst q9
    exact hret 44 _ _ _ d_Let_isDigit_44 rfl hP hS
  · replace hF := xo_if_f c_41 hF
    refine lv_aload_n hx hb d_Let_isDigit_11 rfl (lv_at hl 0 rfl) ?_
    refine xk_get (C := R_Let) (T := F_Let) (N := 5) hx hb hts i_Let hown hK hP 28 xw_C_at_28 rfl 0 (by decide) u_162 rfl d_Let_isDigit_12 ?_
    refine lv_aload_n hx hb d_Let_isDigit_15 rfl (lv_at hl 0 rfl) ?_
    refine xk_get (C := R_Let) (T := F_Let) (N := 5) hx hb hts i_Let hown hK hP 28 xw_C_at_28 rfl 2 (by decide) u_165 rfl d_Let_isDigit_16 ?_
    obtain ⟨v1, h_v1, hF⟩ := xo_ob hF
    refine xk_iald hx hb hK hP 29 xw_C_at_29 h_v1 d_Let_isDigit_19 ?_
    refine lv_bipush (v := (48 : Int32)) hx hb d_Let_isDigit_20 (by decide) ?_
    refine lv_icmp_lt (tgt := 43) hx hb d_Let_isDigit_22 (by decide) (fun c_42 => ?_) (fun c_42 => ?_)
    · replace hF := xo_if_t c_42 hF
      refine lv_iconst (v := (0 : Int32)) hx hb d_Let_isDigit_43 (by decide) ?_
      have q9 := Option.some.inj hF
      subst q9
      exact hret 44 _ _ _ d_Let_isDigit_44 rfl hP hS
    · replace hF := xo_if_f c_42 hF
      refine lv_aload_n hx hb d_Let_isDigit_25 rfl (lv_at hl 0 rfl) ?_
      refine xk_get (C := R_Let) (T := F_Let) (N := 5) hx hb hts i_Let hown hK hP 28 xw_C_at_28 rfl 0 (by decide) u_162 rfl d_Let_isDigit_26 ?_
      refine lv_aload_n hx hb d_Let_isDigit_29 rfl (lv_at hl 0 rfl) ?_
      refine xk_get (C := R_Let) (T := F_Let) (N := 5) hx hb hts i_Let hown hK hP 28 xw_C_at_28 rfl 2 (by decide) u_165 rfl d_Let_isDigit_30 ?_
      obtain ⟨v2, h_v2, hF⟩ := xo_ob hF
      refine xk_iald hx hb hK hP 29 xw_C_at_29 h_v2 d_Let_isDigit_33 ?_
      refine lv_bipush (v := (57 : Int32)) hx hb d_Let_isDigit_34 (by decide) ?_
      refine lv_icmp_gt (tgt := 43) hx hb d_Let_isDigit_36 (by decide) (fun c_43 => ?_) (fun c_43 => ?_)
      · replace hF := xo_if_t c_43 hF
        refine lv_iconst (v := (0 : Int32)) hx hb d_Let_isDigit_43 (by decide) ?_
        have q9 := Option.some.inj hF
        subst q9
        exact hret 44 _ _ _ d_Let_isDigit_44 rfl hP hS
      · replace hF := xo_if_f c_43 hF
        refine lv_iconst (v := (1 : Int32)) hx hb d_Let_isDigit_39 (by decide) ?_
        refine lv_goto (tgt := 44) hx hb d_Let_isDigit_40 (by decide) ?_
        have q9 := Option.some.inj hF
        subst q9
        exact hret 44 _ _ _ d_Let_isDigit_44 rfl hP hS
set_option maxHeartbeats 4000000 in
set_option maxRecDepth 100000 in
theorem c_Let_readNumber (l : Launch) (D : va_G) (cI cZ : ClassId) (ad : Nat → Nat) (A : Nat → Prop) (adK adV : Nat → Nat) (hDw : ∀ st : XS, va_D A (xw_C ad cI cZ st)) (x1 : Int32) (x2 : Int32) (st : XS) (r9 : Int32) (st9 : XS) (hF : F_Let_readNumber x1 x2 st = some (r9, st9)) : K_I l D cI cZ A adK adV (xw_C ad cI cZ) y_Let_readNumber b_Let_readNumber 6 (some .boolean) 1 22 [.ref (ad 28), .int x1, .int x2] st r9 st9 := by
  refine xk_startI (by decide) .boolean rfl (Nat.le_of_ble_eq_true rfl) ?_
  intro p e s m args below meth c Q ls hx hb hml hown hts hK hE hP hS hl hret
  replace hown : s.vm.findClass R_Let = some m.cls := hown
  replace hl : lv_has ls 6 [(0, .ref (ad 28)), (1, .int x1), (2, .int x2)] := hl
  unfold F_Let_readNumber at hF
  have mg20 : ∀ (x1 : Int32) (x2 : Int32) (x3 : Int32) (xs : XS), F_Let_readNumber_m20 x1 x2 x3 xs = some (r9, st9) → ∀ (H : Heap) (locs : List Loc) (ls : Array Slot), va_P D classes (xw_C ad cI cZ xs) H → va_S A s.heap H locs → lv_has ls 6 [(0, .ref (ad 28)), (1, .int x1), (2, .int x2), (3, .int x3)] → W p l e (xk_rm 1 22) s m args below meth c H locs 0 0 Q (F0 m 20 ls []) := by
    intro x1 x2 x3 xs hF H locs ls hP hS hl
    unfold F_Let_readNumber_m20 at hF
    refine lv_aload_n hx hb d_Let_readNumber_20 rfl (lv_at hl 0 rfl) ?_
    obtain ⟨v1, h_v1, hF⟩ := xo_ob hF
    refine xk_goI (xk_runV (As := []) (rest := []) hx hb hml hown hts hK hE (fun _ h => h) hP hS ok_Let_isDigit in_Let_isDigit u_401 (c_Let_isDigit l D cI cZ ad A adK adV hDw xs v1 h_v1) (va_recv hK hP (ci := 0) (q0 := 28) rfl xw_C_at_28) (by decide) rfl hl.1 rfl (Nat.le_of_ble_eq_true rfl) d_Let_readNumber_21 ⟨Nat.le_refl _, Nat.le_refl _⟩) (fun _ h => h) hS (fun H locs hP hS => ?_)
    refine lv_if_ne (tgt := 29) hx hb d_Let_readNumber_24 (by decide) (fun c_44 => ?_) (fun c_44 => ?_)
    · replace hF := xo_if_f c_44 hF
      refine lv_iconst (v := (0 : Int32)) hx hb d_Let_readNumber_29 (by decide) ?_
      refine lv_istore (lv' := [(4, .int (0 : Int32)), (0, .ref (ad 28)), (1, .int x1), (2, .int x2), (3, .int x3)]) hx hb d_Let_readNumber_30 hl (by decide) rfl (fun ls hl => ?_)
      refine lv_iconst (v := (0 : Int32)) hx hb d_Let_readNumber_32 (by decide) ?_
      refine lv_istore (lv' := [(5, .int (0 : Int32)), (4, .int (0 : Int32)), (0, .ref (ad 28)), (1, .int x1), (2, .int x2), (3, .int x3)]) hx hb d_Let_readNumber_33 hl (by decide) rfl (fun ls hl => ?_)
      have lp35 : ∀ (n : Nat) (w35_4 : Int32) (w35_5 : Int32) (w35_s : XS) (y : (Int32 × XS)), xo_lp (fun q : (Int32 × Int32 × XS) => F_Let_readNumber_b35 x1 x2 x3 q.1 q.2.1 q.2.2) n (w35_4, w35_5, w35_s) = some y → (∀ (e4 : Int32) (es : XS), (e4, es) = y → ∀ (H : Heap) (locs : List Loc) (ls : Array Slot), va_P D classes (xw_C ad cI cZ es) H → va_S A s.heap H locs → lv_has ls 6 [(0, .ref (ad 28)), (1, .int x1), (3, .int x3), (4, .int e4)] → W p l e (xk_rm 1 22) s m args below meth c H locs 0 0 Q (F0 m 84 ls [])) → ∀ (H : Heap) (locs : List Loc) (ls : Array Slot), va_P D classes (xw_C ad cI cZ w35_s) H → va_S A s.heap H locs → lv_has ls 6 [(0, .ref (ad 28)), (1, .int x1), (2, .int x2), (3, .int x3), (4, .int w35_4), (5, .int w35_5)] → W p l e (xk_rm 1 22) s m args below meth c H locs 0 0 Q (F0 m 35 ls []) := by
        intro n
        induction n with
        | zero =>
          intro w35_4 w35_5 w35_s y hL
          exact nomatch (show (none : Option _) = some y from hL)
        | succ n ih =>
          intro w35_4 w35_5 w35_s y hL kx0 H locs ls hP hS hl
          obtain ⟨z9, hB, hL⟩ := xo_lp_s hL
          replace hB : F_Let_readNumber_b35 x1 x2 x3 w35_4 w35_5 w35_s = some z9 := hB
          unfold F_Let_readNumber_b35 at hB
          refine lv_iload hx hb d_Let_readNumber_35 (lv_at hl 5 rfl) ?_
          refine lv_iload_n hx hb d_Let_readNumber_37 rfl (lv_at hl 2 rfl) ?_
          refine lv_icmp_ge (tgt := 84) hx hb d_Let_readNumber_38 (by decide) (fun c_45 => ?_) (fun c_45 => ?_)
          · replace hB := xo_if_t c_45 hB
            have q9 := Option.some.inj hB
            subst q9
            replace hL := Option.some.inj (xo_elR hL)
            subst hL
            exact kx0 _ _ rfl _ _ _ hP hS (lv_sub hl [0, 1, 3, 4] rfl)
          · replace hB := xo_if_f c_45 hB
            refine lv_aload_n hx hb d_Let_readNumber_41 rfl (lv_at hl 0 rfl) ?_
            obtain ⟨v4, h_v4, hB⟩ := xo_ob hB
            refine xk_goI (xk_runV (As := []) (rest := []) hx hb hml hown hts hK hE (fun _ h => h) hP hS ok_Let_isDigit in_Let_isDigit u_401 (c_Let_isDigit l D cI cZ ad A adK adV hDw w35_s v4 h_v4) (va_recv hK hP (ci := 0) (q0 := 28) rfl xw_C_at_28) (by decide) rfl hl.1 rfl (Nat.le_of_ble_eq_true rfl) d_Let_readNumber_42 ⟨Nat.le_refl _, Nat.le_refl _⟩) (fun _ h => h) hS (fun H locs hP hS => ?_)
            refine lv_if_eq (tgt := 84) hx hb d_Let_readNumber_45 (by decide) (fun c_46 => ?_) (fun c_46 => ?_)
            · replace hB := xo_if_t c_46 hB
              have q9 := Option.some.inj hB
              subst q9
              replace hL := Option.some.inj (xo_elR hL)
              subst hL
              exact kx0 _ _ rfl _ _ _ hP hS (lv_sub hl [0, 1, 3, 4] rfl)
            · replace hB := xo_if_f c_46 hB
              refine lv_iload hx hb d_Let_readNumber_48 (lv_at hl 4 rfl) ?_
              refine lv_bipush (v := (10 : Int32)) hx hb d_Let_readNumber_50 (by decide) ?_
              refine lv_imul hx hb d_Let_readNumber_52 ?_
              refine lv_aload_n hx hb d_Let_readNumber_53 rfl (lv_at hl 0 rfl) ?_
              refine xk_get (C := R_Let) (T := F_Let) (N := 5) hx hb hts i_Let hown hK hP 28 xw_C_at_28 rfl 0 (by decide) u_162 rfl d_Let_readNumber_54 ?_
              refine lv_aload_n hx hb d_Let_readNumber_57 rfl (lv_at hl 0 rfl) ?_
              refine xk_get (C := R_Let) (T := F_Let) (N := 5) hx hb hts i_Let hown hK hP 28 xw_C_at_28 rfl 2 (by decide) u_165 rfl d_Let_readNumber_58 ?_
              obtain ⟨v5, h_v5, hB⟩ := xo_ob hB
              refine xk_iald hx hb hK hP 29 xw_C_at_29 h_v5 d_Let_readNumber_61 ?_
              refine lv_iadd hx hb d_Let_readNumber_62 ?_
              refine lv_bipush (v := (48 : Int32)) hx hb d_Let_readNumber_63 (by decide) ?_
              refine lv_isub hx hb d_Let_readNumber_65 ?_
              refine lv_topi (fun v6 e_v6 => ?_)
              replace hB := xo_nm_u hB e_v6
              clear e_v6
              refine lv_istore (lv' := [(4, .int v6), (0, .ref (ad 28)), (1, .int x1), (2, .int x2), (3, .int x3), (5, .int w35_5)]) hx hb d_Let_readNumber_66 hl (by decide) rfl (fun ls hl => ?_)
              refine lv_aload_n hx hb d_Let_readNumber_68 rfl (lv_at hl 1 rfl) ?_
              refine lv_dup hx hb d_Let_readNumber_69 rfl ?_
              refine xk_get (C := R_Let) (T := F_Let) (N := 5) hx hb hts i_Let hown hK hP 28 xw_C_at_28 rfl 2 (by decide) u_165 rfl d_Let_readNumber_70 ?_
              refine lv_iconst (v := (1 : Int32)) hx hb d_Let_readNumber_73 (by decide) ?_
              refine lv_iadd hx hb d_Let_readNumber_74 ?_
              obtain ⟨t7, e_t7, hB⟩ := xo_nm_e hB
              refine xk_put (C := R_Let) (T := F_Let) (N := 5) (ty := .int) hx hb hts i_Let t_Let t_Let_ok n_Let hown hK hP (hDw _) hS 28 xw_C_at_28 rfl 2 (by decide) u_165 rfl (by decide +kernel) rfl rfl (Nat.le_of_ble_eq_true rfl) (xw_C_put_28_2 _) d_Let_readNumber_75 (fun H locs hP hS => ?_)
              replace hP : va_P D classes (xw_C ad cI cZ t7) H := by rw [e_t7]; exact hP
              clear e_t7
              obtain ⟨v8, e_v8, hB⟩ := xo_nm_e hB
              refine lv_iinc (v := v8) (lv' := [(5, .int v8), (4, .int v6), (0, .ref (ad 28)), (1, .int x1), (2, .int x2), (3, .int x3)]) hx hb d_Let_readNumber_78 hl (k := 5) rfl (by rw [e_v8]; rfl) (by decide) rfl (fun ls hl => ?_)
              clear e_v8
              refine lv_goto (tgt := 35) hx hb d_Let_readNumber_81 (by decide) ?_
              have q9 := Option.some.inj hB
              subst q9
              exact ih _ _ _ _ (xo_elL hL) kx0 _ _ _ hP hS (lv_sub hl [2, 3, 4, 5, 1, 0] rfl)
      obtain ⟨y35, hL35, hF⟩ := xo_ob hF
      refine lp35 1000000 (0 : Int32) (0 : Int32) xs y35 hL35 ?_ _ _ _ hP hS (lv_sub hl [2, 3, 4, 5, 1, 0] rfl)
      intro o2 t3 ey H locs ls hP hS hl
      subst ey
      replace hF := xo_u2e hF
      refine lv_aload_n hx hb d_Let_readNumber_84 rfl (lv_at hl 0 rfl) ?_
      refine xk_get (C := R_Let) (T := F_Let) (N := 5) hx hb hts i_Let hown hK hP 28 xw_C_at_28 rfl 4 (by decide) u_167 rfl d_Let_readNumber_85 ?_
      refine lv_iload_n hx hb d_Let_readNumber_88 rfl (lv_at hl 1 rfl) ?_
      refine lv_iload_n hx hb d_Let_readNumber_89 rfl (lv_at hl 2 rfl) ?_
      refine lv_if_eq (tgt := 99) hx hb d_Let_readNumber_90 (by decide) (fun c_47 => ?_) (fun c_47 => ?_)
      · replace hF := xo_if_t c_47 hF
        refine lv_iload hx hb d_Let_readNumber_99 (lv_at hl 3 rfl) ?_
        obtain ⟨_, h_t9, hF⟩ := xo_ob hF
        obtain ⟨t9, e_t9, hF⟩ := xo_nm_e hF
        refine xk_iast hx hb hK hP (hDw _) hS 30 xw_C_at_30 h_t9 (xw_C_set_30 _) d_Let_readNumber_101 (fun H locs hP hS => ?_)
        replace hP : va_P D classes (xw_C ad cI cZ t9) H := by rw [e_t9]; exact hP
        clear e_t9
        refine lv_iconst (v := (1 : Int32)) hx hb d_Let_readNumber_102 (by decide) ?_
        obtain ⟨q8, q9⟩ := xo_s2 hF
        subst q8
        subst q9
        exact hret 103 _ _ _ d_Let_readNumber_103 rfl hP hS
      · replace hF := xo_if_f c_47 hF
        refine lv_iload hx hb d_Let_readNumber_93 (lv_at hl 3 rfl) ?_
        refine lv_ineg hx hb d_Let_readNumber_95 ?_
        refine lv_goto (tgt := 101) hx hb d_Let_readNumber_96 (by decide) ?_
        obtain ⟨_, h_t10, hF⟩ := xo_ob hF
        obtain ⟨t10, e_t10, hF⟩ := xo_nm_e hF
        refine xk_iast hx hb hK hP (hDw _) hS 30 xw_C_at_30 h_t10 (xw_C_set_30 _) d_Let_readNumber_101 (fun H locs hP hS => ?_)
        replace hP : va_P D classes (xw_C ad cI cZ t10) H := by rw [e_t10]; exact hP
        clear e_t10
        refine lv_iconst (v := (1 : Int32)) hx hb d_Let_readNumber_102 (by decide) ?_
        obtain ⟨q8, q9⟩ := xo_s2 hF
        subst q8
        subst q9
        exact hret 103 _ _ _ d_Let_readNumber_103 rfl hP hS
    · replace hF := xo_if_t c_44 hF
      refine lv_iconst (v := (0 : Int32)) hx hb d_Let_readNumber_27 (by decide) ?_
      obtain ⟨q8, q9⟩ := xo_s2 hF
      subst q8
      subst q9
      exact hret 28 _ _ _ d_Let_readNumber_28 rfl hP hS
  refine lv_aload_n hx hb d_Let_readNumber_0 rfl (lv_at hl 0 rfl) ?_
  refine lv_bipush (v := (45 : Int32)) hx hb d_Let_readNumber_1 (by decide) ?_
  obtain ⟨v11, t12, h_v11, hF⟩ := xo_ob2 hF
  refine xk_goI (xk_runV (As := [.int (45 : Int32)]) (rest := []) hx hb hml hown hts hK hE (fun _ h => h) hP hS ok_Let_takes in_Let_takes u_302 (c_Let_takes l D cI cZ ad A adK adV hDw (45 : Int32) st v11 t12 h_v11) (va_recv hK hP (ci := 0) (q0 := 28) rfl xw_C_at_28) (by decide) rfl hl.1 rfl (Nat.le_of_ble_eq_true rfl) d_Let_readNumber_3 ⟨Nat.le_refl _, Nat.le_refl _⟩) (fun _ h => h) hS (fun H locs hP hS => ?_)
  refine lv_istore_n (lv' := [(3, .int v11), (0, .ref (ad 28)), (1, .int x1), (2, .int x2)]) hx hb d_Let_readNumber_6 rfl hl (by decide) rfl (fun ls hl => ?_)
  refine lv_iload_n hx hb d_Let_readNumber_7 rfl (lv_at hl 0 rfl) ?_
  refine lv_if_ne (tgt := 20) hx hb d_Let_readNumber_8 (by decide) (fun c_48 => ?_) (fun c_48 => ?_)
  · replace hF := xo_if_f c_48 hF
    exact mg20 _ _ _ _ hF _ _ _ hP hS (lv_sub hl [1, 2, 3, 0] rfl)
  · replace hF := xo_if_t c_48 hF
    refine lv_aload_n hx hb d_Let_readNumber_11 rfl (lv_at hl 1 rfl) ?_
    refine lv_bipush (v := (43 : Int32)) hx hb d_Let_readNumber_12 (by decide) ?_
    obtain ⟨v13, t14, h_v13, hF⟩ := xo_ob2 hF
    refine xk_goI (xk_runV (As := [.int (43 : Int32)]) (rest := []) hx hb hml hown hts hK hE (fun _ h => h) hP hS ok_Let_takes in_Let_takes u_302 (c_Let_takes l D cI cZ ad A adK adV hDw (43 : Int32) t12 v13 t14 h_v13) (va_recv hK hP (ci := 0) (q0 := 28) rfl xw_C_at_28) (by decide) rfl hl.1 rfl (Nat.le_of_ble_eq_true rfl) d_Let_readNumber_14 ⟨Nat.le_refl _, Nat.le_refl _⟩) (fun _ h => h) hS (fun H locs hP hS => ?_)
    refine lv_if_eq (tgt := 27) hx hb d_Let_readNumber_17 (by decide) (fun c_49 => ?_) (fun c_49 => ?_)
    · replace hF := xo_if_t c_49 hF
      refine lv_iconst (v := (0 : Int32)) hx hb d_Let_readNumber_27 (by decide) ?_
      obtain ⟨q8, q9⟩ := xo_s2 hF
      subst q8
      subst q9
      exact hret 28 _ _ _ d_Let_readNumber_28 rfl hP hS
    · replace hF := xo_if_f c_49 hF
      exact mg20 _ _ _ _ hF _ _ _ hP hS (lv_sub hl [1, 2, 3, 0] rfl)
set_option maxHeartbeats 4000000 in
set_option maxRecDepth 100000 in
theorem c_Let_readStatement (l : Launch) (D : va_G) (cI cZ : ClassId) (ad : Nat → Nat) (A : Nat → Prop) (adK adV : Nat → Nat) (hDw : ∀ st : XS, va_D A (xw_C ad cI cZ st)) (st : XS) (r9 : Int32) (st9 : XS) (hF : F_Let_readStatement  st = some (r9, st9)) : K_I l D cI cZ A adK adV (xw_C ad cI cZ) y_Let_readStatement b_Let_readStatement 1 (some .boolean) 5 111 [.ref (ad 28)] st r9 st9 := by
  refine xk_startI (by decide) .boolean rfl (Nat.le_of_ble_eq_true rfl) ?_
  intro p e s m args below meth c Q ls hx hb hml hown hts hK hE hP hS hl hret
  replace hown : s.vm.findClass R_Let = some m.cls := hown
  replace hl : lv_has ls 1 [(0, .ref (ad 28))] := hl
  unfold F_Let_readStatement at hF
  refine lv_aload_n hx hb d_Let_readStatement_0 rfl (lv_at hl 0 rfl) ?_
  refine lv_iconst (v := (-1 : Int32)) hx hb d_Let_readStatement_1 (by decide) ?_
  obtain ⟨t1, e_t1, hF⟩ := xo_nm_e hF
  refine xk_put (C := R_Let) (T := F_Let) (N := 5) (ty := .int) hx hb hts i_Let t_Let t_Let_ok n_Let hown hK hP (hDw _) hS 28 xw_C_at_28 rfl 3 (by decide) u_166 rfl (by decide +kernel) rfl rfl (Nat.le_of_ble_eq_true rfl) (xw_C_put_28_3 _) d_Let_readStatement_2 (fun H locs hP hS => ?_)
  replace hP : va_P D classes (xw_C ad cI cZ t1) H := by rw [e_t1]; exact hP
  clear e_t1
  refine lv_aload_n hx hb d_Let_readStatement_5 rfl (lv_at hl 0 rfl) ?_
  refine lv_bipush (v := (115 : Int32)) hx hb d_Let_readStatement_6 (by decide) ?_
  obtain ⟨v2, t3, h_v2, hF⟩ := xo_ob2 hF
  refine xk_goI (xk_runV (As := [.int (115 : Int32)]) (rest := []) hx hb hml hown hts hK hE (fun _ h => h) hP hS ok_Let_takes in_Let_takes u_302 (c_Let_takes l D cI cZ ad A adK adV hDw (115 : Int32) t1 v2 t3 h_v2) (va_recv hK hP (ci := 0) (q0 := 28) rfl xw_C_at_28) (by decide) rfl hl.1 rfl (Nat.le_of_ble_eq_true rfl) d_Let_readStatement_8 ⟨Nat.le_refl _, Nat.le_refl _⟩) (fun _ h => h) hS (fun H locs hP hS => ?_)
  refine lv_if_eq (tgt := 63) hx hb d_Let_readStatement_11 (by decide) (fun c_50 => ?_) (fun c_50 => ?_)
  · replace hF := xo_if_t c_50 hF
    refine lv_aload_n hx hb d_Let_readStatement_63 rfl (lv_at hl 0 rfl) ?_
    refine lv_bipush (v := (112 : Int32)) hx hb d_Let_readStatement_64 (by decide) ?_
    obtain ⟨v4, t5, h_v4, hF⟩ := xo_ob2 hF
    refine xk_goI (xk_runV (As := [.int (112 : Int32)]) (rest := []) hx hb hml hown hts hK hE (fun _ h => h) hP hS ok_Let_takes in_Let_takes u_302 (c_Let_takes l D cI cZ ad A adK adV hDw (112 : Int32) t3 v4 t5 h_v4) (va_recv hK hP (ci := 0) (q0 := 28) rfl xw_C_at_28) (by decide) rfl hl.1 rfl (Nat.le_of_ble_eq_true rfl) d_Let_readStatement_66 ⟨Nat.le_refl _, Nat.le_refl _⟩) (fun _ h => h) hS (fun H locs hP hS => ?_)
    refine lv_if_eq (tgt := 103) hx hb d_Let_readStatement_69 (by decide) (fun c_51 => ?_) (fun c_51 => ?_)
    · replace hF := xo_if_t c_51 hF
      refine lv_iconst (v := (0 : Int32)) hx hb d_Let_readStatement_103 (by decide) ?_
      obtain ⟨q8, q9⟩ := xo_s2 hF
      subst q8
      subst q9
      exact hret 104 _ _ _ d_Let_readStatement_104 rfl hP hS
    · replace hF := xo_if_f c_51 hF
      refine lv_aload_n hx hb d_Let_readStatement_72 rfl (lv_at hl 0 rfl) ?_
      refine lv_iconst (v := (0 : Int32)) hx hb d_Let_readStatement_73 (by decide) ?_
      refine lv_iconst (v := (2 : Int32)) hx hb d_Let_readStatement_74 (by decide) ?_
      obtain ⟨v6, t7, h_v6, hF⟩ := xo_ob2 hF
      refine xk_goI (xk_runV (As := [.int (0 : Int32), .int (2 : Int32)]) (rest := []) hx hb hml hown hts hK hE (fun _ h => h) hP hS ok_Let_readNumber in_Let_readNumber u_397 (c_Let_readNumber l D cI cZ ad A adK adV hDw (0 : Int32) (2 : Int32) t5 v6 t7 h_v6) (va_recv hK hP (ci := 0) (q0 := 28) rfl xw_C_at_28) (by decide) rfl hl.1 rfl (Nat.le_of_ble_eq_true rfl) d_Let_readStatement_75 ⟨Nat.le_refl _, Nat.le_refl _⟩) (fun _ h => h) hS (fun H locs hP hS => ?_)
      refine lv_if_eq (tgt := 103) hx hb d_Let_readStatement_78 (by decide) (fun c_52 => ?_) (fun c_52 => ?_)
      · replace hF := xo_if_t c_52 hF
        refine lv_iconst (v := (0 : Int32)) hx hb d_Let_readStatement_103 (by decide) ?_
        obtain ⟨q8, q9⟩ := xo_s2 hF
        subst q8
        subst q9
        exact hret 104 _ _ _ d_Let_readStatement_104 rfl hP hS
      · replace hF := xo_if_f c_52 hF
        refine lv_aload_n hx hb d_Let_readStatement_81 rfl (lv_at hl 0 rfl) ?_
        refine lv_iconst (v := (1 : Int32)) hx hb d_Let_readStatement_82 (by decide) ?_
        refine lv_iconst (v := (2 : Int32)) hx hb d_Let_readStatement_83 (by decide) ?_
        obtain ⟨v8, t9, h_v8, hF⟩ := xo_ob2 hF
        refine xk_goI (xk_runV (As := [.int (1 : Int32), .int (2 : Int32)]) (rest := []) hx hb hml hown hts hK hE (fun _ h => h) hP hS ok_Let_readNumber in_Let_readNumber u_397 (c_Let_readNumber l D cI cZ ad A adK adV hDw (1 : Int32) (2 : Int32) t7 v8 t9 h_v8) (va_recv hK hP (ci := 0) (q0 := 28) rfl xw_C_at_28) (by decide) rfl hl.1 rfl (Nat.le_of_ble_eq_true rfl) d_Let_readStatement_84 ⟨Nat.le_refl _, Nat.le_refl _⟩) (fun _ h => h) hS (fun H locs hP hS => ?_)
        refine lv_if_eq (tgt := 103) hx hb d_Let_readStatement_87 (by decide) (fun c_53 => ?_) (fun c_53 => ?_)
        · replace hF := xo_if_t c_53 hF
          refine lv_iconst (v := (0 : Int32)) hx hb d_Let_readStatement_103 (by decide) ?_
          obtain ⟨q8, q9⟩ := xo_s2 hF
          subst q8
          subst q9
          exact hret 104 _ _ _ d_Let_readStatement_104 rfl hP hS
        · replace hF := xo_if_f c_53 hF
          refine lv_aload_n hx hb d_Let_readStatement_90 rfl (lv_at hl 0 rfl) ?_
          refine lv_bipush (v := (59 : Int32)) hx hb d_Let_readStatement_91 (by decide) ?_
          obtain ⟨v10, t11, h_v10, hF⟩ := xo_ob2 hF
          refine xk_goI (xk_runV (As := [.int (59 : Int32)]) (rest := []) hx hb hml hown hts hK hE (fun _ h => h) hP hS ok_Let_takes in_Let_takes u_302 (c_Let_takes l D cI cZ ad A adK adV hDw (59 : Int32) t9 v10 t11 h_v10) (va_recv hK hP (ci := 0) (q0 := 28) rfl xw_C_at_28) (by decide) rfl hl.1 rfl (Nat.le_of_ble_eq_true rfl) d_Let_readStatement_93 ⟨Nat.le_refl _, Nat.le_refl _⟩) (fun _ h => h) hS (fun H locs hP hS => ?_)
          refine lv_if_eq (tgt := 103) hx hb d_Let_readStatement_96 (by decide) (fun c_54 => ?_) (fun c_54 => ?_)
          · replace hF := xo_if_t c_54 hF
            refine lv_iconst (v := (0 : Int32)) hx hb d_Let_readStatement_103 (by decide) ?_
            obtain ⟨q8, q9⟩ := xo_s2 hF
            subst q8
            subst q9
            exact hret 104 _ _ _ d_Let_readStatement_104 rfl hP hS
          · replace hF := xo_if_f c_54 hF
            refine lv_iconst (v := (1 : Int32)) hx hb d_Let_readStatement_99 (by decide) ?_
            refine lv_goto (tgt := 104) hx hb d_Let_readStatement_100 (by decide) ?_
            obtain ⟨q8, q9⟩ := xo_s2 hF
            subst q8
            subst q9
            exact hret 104 _ _ _ d_Let_readStatement_104 rfl hP hS
  · replace hF := xo_if_f c_50 hF
    refine lv_aload_n hx hb d_Let_readStatement_14 rfl (lv_at hl 0 rfl) ?_
    obtain ⟨v12, t13, h_v12, hF⟩ := xo_ob2 hF
    refine xk_goI (xk_runV (As := []) (rest := []) hx hb hml hown hts hK hE (fun _ h => h) hP hS ok_Let_readKind in_Let_readKind u_306 (c_Let_readKind l D cI cZ ad A adK adV hDw t3 v12 t13 h_v12) (va_recv hK hP (ci := 0) (q0 := 28) rfl xw_C_at_28) (by decide) rfl hl.1 rfl (Nat.le_of_ble_eq_true rfl) d_Let_readStatement_15 ⟨Nat.le_refl _, Nat.le_refl _⟩) (fun _ h => h) hS (fun H locs hP hS => ?_)
    refine lv_if_eq (tgt := 61) hx hb d_Let_readStatement_18 (by decide) (fun c_55 => ?_) (fun c_55 => ?_)
    · replace hF := xo_if_t c_55 hF
      refine lv_iconst (v := (0 : Int32)) hx hb d_Let_readStatement_61 (by decide) ?_
      obtain ⟨q8, q9⟩ := xo_s2 hF
      subst q8
      subst q9
      exact hret 62 _ _ _ d_Let_readStatement_62 rfl hP hS
    · replace hF := xo_if_f c_55 hF
      refine lv_aload_n hx hb d_Let_readStatement_21 rfl (lv_at hl 0 rfl) ?_
      refine lv_iconst (v := (0 : Int32)) hx hb d_Let_readStatement_22 (by decide) ?_
      refine lv_iconst (v := (1 : Int32)) hx hb d_Let_readStatement_23 (by decide) ?_
      obtain ⟨v14, t15, h_v14, hF⟩ := xo_ob2 hF
      refine xk_goI (xk_runV (As := [.int (0 : Int32), .int (1 : Int32)]) (rest := []) hx hb hml hown hts hK hE (fun _ h => h) hP hS ok_Let_readNumber in_Let_readNumber u_397 (c_Let_readNumber l D cI cZ ad A adK adV hDw (0 : Int32) (1 : Int32) t13 v14 t15 h_v14) (va_recv hK hP (ci := 0) (q0 := 28) rfl xw_C_at_28) (by decide) rfl hl.1 rfl (Nat.le_of_ble_eq_true rfl) d_Let_readStatement_24 ⟨Nat.le_refl _, Nat.le_refl _⟩) (fun _ h => h) hS (fun H locs hP hS => ?_)
      refine lv_if_eq (tgt := 61) hx hb d_Let_readStatement_27 (by decide) (fun c_56 => ?_) (fun c_56 => ?_)
      · replace hF := xo_if_t c_56 hF
        refine lv_iconst (v := (0 : Int32)) hx hb d_Let_readStatement_61 (by decide) ?_
        obtain ⟨q8, q9⟩ := xo_s2 hF
        subst q8
        subst q9
        exact hret 62 _ _ _ d_Let_readStatement_62 rfl hP hS
      · replace hF := xo_if_f c_56 hF
        refine lv_aload_n hx hb d_Let_readStatement_30 rfl (lv_at hl 0 rfl) ?_
        refine lv_iconst (v := (1 : Int32)) hx hb d_Let_readStatement_31 (by decide) ?_
        refine lv_iconst (v := (1 : Int32)) hx hb d_Let_readStatement_32 (by decide) ?_
        obtain ⟨v16, t17, h_v16, hF⟩ := xo_ob2 hF
        refine xk_goI (xk_runV (As := [.int (1 : Int32), .int (1 : Int32)]) (rest := []) hx hb hml hown hts hK hE (fun _ h => h) hP hS ok_Let_readNumber in_Let_readNumber u_397 (c_Let_readNumber l D cI cZ ad A adK adV hDw (1 : Int32) (1 : Int32) t15 v16 t17 h_v16) (va_recv hK hP (ci := 0) (q0 := 28) rfl xw_C_at_28) (by decide) rfl hl.1 rfl (Nat.le_of_ble_eq_true rfl) d_Let_readStatement_33 ⟨Nat.le_refl _, Nat.le_refl _⟩) (fun _ h => h) hS (fun H locs hP hS => ?_)
        refine lv_if_eq (tgt := 61) hx hb d_Let_readStatement_36 (by decide) (fun c_57 => ?_) (fun c_57 => ?_)
        · replace hF := xo_if_t c_57 hF
          refine lv_iconst (v := (0 : Int32)) hx hb d_Let_readStatement_61 (by decide) ?_
          obtain ⟨q8, q9⟩ := xo_s2 hF
          subst q8
          subst q9
          exact hret 62 _ _ _ d_Let_readStatement_62 rfl hP hS
        · replace hF := xo_if_f c_57 hF
          refine lv_aload_n hx hb d_Let_readStatement_39 rfl (lv_at hl 0 rfl) ?_
          refine lv_iconst (v := (2 : Int32)) hx hb d_Let_readStatement_40 (by decide) ?_
          refine lv_iconst (v := (2 : Int32)) hx hb d_Let_readStatement_41 (by decide) ?_
          obtain ⟨v18, t19, h_v18, hF⟩ := xo_ob2 hF
          refine xk_goI (xk_runV (As := [.int (2 : Int32), .int (2 : Int32)]) (rest := []) hx hb hml hown hts hK hE (fun _ h => h) hP hS ok_Let_readNumber in_Let_readNumber u_397 (c_Let_readNumber l D cI cZ ad A adK adV hDw (2 : Int32) (2 : Int32) t17 v18 t19 h_v18) (va_recv hK hP (ci := 0) (q0 := 28) rfl xw_C_at_28) (by decide) rfl hl.1 rfl (Nat.le_of_ble_eq_true rfl) d_Let_readStatement_42 ⟨Nat.le_refl _, Nat.le_refl _⟩) (fun _ h => h) hS (fun H locs hP hS => ?_)
          refine lv_if_eq (tgt := 61) hx hb d_Let_readStatement_45 (by decide) (fun c_58 => ?_) (fun c_58 => ?_)
          · replace hF := xo_if_t c_58 hF
            refine lv_iconst (v := (0 : Int32)) hx hb d_Let_readStatement_61 (by decide) ?_
            obtain ⟨q8, q9⟩ := xo_s2 hF
            subst q8
            subst q9
            exact hret 62 _ _ _ d_Let_readStatement_62 rfl hP hS
          · replace hF := xo_if_f c_58 hF
            refine lv_aload_n hx hb d_Let_readStatement_48 rfl (lv_at hl 0 rfl) ?_
            refine lv_bipush (v := (59 : Int32)) hx hb d_Let_readStatement_49 (by decide) ?_
            obtain ⟨v20, t21, h_v20, hF⟩ := xo_ob2 hF
            refine xk_goI (xk_runV (As := [.int (59 : Int32)]) (rest := []) hx hb hml hown hts hK hE (fun _ h => h) hP hS ok_Let_takes in_Let_takes u_302 (c_Let_takes l D cI cZ ad A adK adV hDw (59 : Int32) t19 v20 t21 h_v20) (va_recv hK hP (ci := 0) (q0 := 28) rfl xw_C_at_28) (by decide) rfl hl.1 rfl (Nat.le_of_ble_eq_true rfl) d_Let_readStatement_51 ⟨Nat.le_refl _, Nat.le_refl _⟩) (fun _ h => h) hS (fun H locs hP hS => ?_)
            refine lv_if_eq (tgt := 61) hx hb d_Let_readStatement_54 (by decide) (fun c_59 => ?_) (fun c_59 => ?_)
            · replace hF := xo_if_t c_59 hF
              refine lv_iconst (v := (0 : Int32)) hx hb d_Let_readStatement_61 (by decide) ?_
              obtain ⟨q8, q9⟩ := xo_s2 hF
              subst q8
              subst q9
              exact hret 62 _ _ _ d_Let_readStatement_62 rfl hP hS
            · replace hF := xo_if_f c_59 hF
              refine lv_iconst (v := (1 : Int32)) hx hb d_Let_readStatement_57 (by decide) ?_
              refine lv_goto (tgt := 62) hx hb d_Let_readStatement_58 (by decide) ?_
              obtain ⟨q8, q9⟩ := xo_s2 hF
              subst q8
              subst q9
              exact hret 62 _ _ _ d_Let_readStatement_62 rfl hP hS
set_option maxHeartbeats 4000000 in
set_option maxRecDepth 100000 in
theorem c_Let_readAll (l : Launch) (D : va_G) (cI cZ : ClassId) (ad : Nat → Nat) (A : Nat → Prop) (adK adV : Nat → Nat) (hDw : ∀ st : XS, va_D A (xw_C ad cI cZ st)) (st : XS) (r9 : Int32) (st9 : XS) (hF : F_Let_readAll  st = some (r9, st9)) : K_I l D cI cZ A adK adV (xw_C ad cI cZ) y_Let_readAll b_Let_readAll 2 (some .int) 6 131 [.ref (ad 28)] st r9 st9 := by
  refine xk_startI (by decide) .int rfl (Nat.le_of_ble_eq_true rfl) ?_
  intro p e s m args below meth c Q ls hx hb hml hown hts hK hE hP hS hl hret
  replace hown : s.vm.findClass R_Let = some m.cls := hown
  replace hl : lv_has ls 2 [(0, .ref (ad 28))] := hl
  unfold F_Let_readAll at hF
  refine lv_aload_n hx hb d_Let_readAll_0 rfl (lv_at hl 0 rfl) ?_
  refine lv_iconst (v := (0 : Int32)) hx hb d_Let_readAll_1 (by decide) ?_
  obtain ⟨t1, e_t1, hF⟩ := xo_nm_e hF
  refine xk_put (C := R_Let) (T := F_Let) (N := 5) (ty := .int) hx hb hts i_Let t_Let t_Let_ok n_Let hown hK hP (hDw _) hS 28 xw_C_at_28 rfl 2 (by decide) u_165 rfl (by decide +kernel) rfl rfl (Nat.le_of_ble_eq_true rfl) (xw_C_put_28_2 _) d_Let_readAll_2 (fun H locs hP hS => ?_)
  replace hP : va_P D classes (xw_C ad cI cZ t1) H := by rw [e_t1]; exact hP
  clear e_t1
  refine lv_iconst (v := (0 : Int32)) hx hb d_Let_readAll_5 (by decide) ?_
  refine lv_istore_n (lv' := [(1, .int (0 : Int32)), (0, .ref (ad 28))]) hx hb d_Let_readAll_6 rfl hl (by decide) rfl (fun ls hl => ?_)
  have lp7 : ∀ (n : Nat) (w7_1 : Int32) (w7_s : XS) (y : (XS ⊕ (Int32 × XS))), xo_lp (fun q : (Int32 × XS) => F_Let_readAll_b7 q.1 q.2) n (w7_1, w7_s) = some y → (∀  (es : XS), (.inl es) = y → ∀ (H : Heap) (locs : List Loc) (ls : Array Slot), va_P D classes (xw_C ad cI cZ es) H → va_S A s.heap H locs → lv_has ls 2 [(0, .ref (ad 28))] → W p l e (xk_rm 6 131) s m args below meth c H locs 0 0 Q (F0 m 14 ls [])) → (∀ (e1 : Int32) (es : XS), (.inr (e1, es)) = y → ∀ (H : Heap) (locs : List Loc) (ls : Array Slot), va_P D classes (xw_C ad cI cZ es) H → va_S A s.heap H locs → lv_has ls 2 [(1, .int e1)] → W p l e (xk_rm 6 131) s m args below meth c H locs 0 0 Q (F0 m 43 ls [])) → ∀ (H : Heap) (locs : List Loc) (ls : Array Slot), va_P D classes (xw_C ad cI cZ w7_s) H → va_S A s.heap H locs → lv_has ls 2 [(0, .ref (ad 28)), (1, .int w7_1)] → W p l e (xk_rm 6 131) s m args below meth c H locs 0 0 Q (F0 m 7 ls []) := by
    intro n
    induction n with
    | zero =>
      intro w7_1 w7_s y hL
      exact nomatch (show (none : Option _) = some y from hL)
    | succ n ih =>
      intro w7_1 w7_s y hL kx0 kx1 H locs ls hP hS hl
      obtain ⟨z9, hB, hL⟩ := xo_lp_s hL
      replace hB : F_Let_readAll_b7 w7_1 w7_s = some z9 := hB
      unfold F_Let_readAll_b7 at hB
      refine lv_aload_n hx hb d_Let_readAll_7 rfl (lv_at hl 0 rfl) ?_
      obtain ⟨v5, t6, h_v5, hB⟩ := xo_ob2 hB
      refine xk_goI (xk_runV (As := []) (rest := []) hx hb hml hown hts hK hE (fun _ h => h) hP hS ok_Let_readStatement in_Let_readStatement u_298 (c_Let_readStatement l D cI cZ ad A adK adV hDw w7_s v5 t6 h_v5) (va_recv hK hP (ci := 0) (q0 := 28) rfl xw_C_at_28) (by decide) rfl hl.1 rfl (Nat.le_of_ble_eq_true rfl) d_Let_readAll_8 ⟨Nat.le_refl _, Nat.le_refl _⟩) (fun _ h => h) hS (fun H locs hP hS => ?_)
      refine lv_if_ne (tgt := 23) hx hb d_Let_readAll_11 (by decide) (fun c_60 => ?_) (fun c_60 => ?_)
      · replace hB := xo_if_f c_60 hB
        obtain ⟨v7, e_v7, hB⟩ := xo_nm_e hB
        refine lv_iinc (v := v7) (lv' := [(1, .int v7), (0, .ref (ad 28))]) hx hb d_Let_readAll_23 hl (k := 1) rfl (by rw [e_v7]; rfl) (by decide) rfl (fun ls hl => ?_)
        clear e_v7
        refine lv_aload_n hx hb d_Let_readAll_26 rfl (lv_at hl 1 rfl) ?_
        refine xk_get (C := R_Let) (T := F_Let) (N := 5) hx hb hts i_Let hown hK hP 28 xw_C_at_28 rfl 2 (by decide) u_165 rfl d_Let_readAll_27 ?_
        refine lv_aload_n hx hb d_Let_readAll_30 rfl (lv_at hl 1 rfl) ?_
        refine xk_get (C := R_Let) (T := F_Let) (N := 5) hx hb hts i_Let hown hK hP 28 xw_C_at_28 rfl 1 (by decide) u_163 rfl d_Let_readAll_31 ?_
        refine lv_icmp_ge (tgt := 43) hx hb d_Let_readAll_34 (by decide) (fun c_61 => ?_) (fun c_61 => ?_)
        · replace hB := xo_if_t c_61 hB
          have q9 := Option.some.inj hB
          subst q9
          replace hL := Option.some.inj (xo_elR hL)
          subst hL
          exact kx1 _ _ rfl _ _ _ hP hS (lv_sub hl [0] rfl)
        · replace hB := xo_if_f c_61 hB
          refine lv_iload_n hx hb d_Let_readAll_37 rfl (lv_at hl 0 rfl) ?_
          refine lv_bipush (v := (96 : Int32)) hx hb d_Let_readAll_38 (by decide) ?_
          refine lv_icmp_lt (tgt := 7) hx hb d_Let_readAll_40 (by decide) (fun c_62 => ?_) (fun c_62 => ?_)
          · replace hB := xo_if_t c_62 hB
            have q9 := Option.some.inj hB
            subst q9
            exact ih _ _ _ (xo_elL hL) kx0 kx1 _ _ _ hP hS (lv_sub hl [1, 0] rfl)
          · replace hB := xo_if_f c_62 hB
            have q9 := Option.some.inj hB
            subst q9
            replace hL := Option.some.inj (xo_elR hL)
            subst hL
            exact kx1 _ _ rfl _ _ _ hP hS (lv_sub hl [0] rfl)
      · replace hB := xo_if_t c_60 hB
        have q9 := Option.some.inj hB
        subst q9
        replace hL := Option.some.inj (xo_elR hL)
        subst hL
        exact kx0 _ rfl _ _ _ hP hS (lv_sub hl [0] rfl)
  obtain ⟨y7, hL7, hF⟩ := xo_ob hF
  refine lp7 1000000 (0 : Int32) t1 y7 hL7 ?_ ?_ _ _ _ hP hS (lv_sub hl [1, 0] rfl)
  · intro t2 ey H locs ls hP hS hl
    subst ey
    replace hF := xo_elL hF
    refine lv_sipush (v := (-1000 : Int32)) hx hb d_Let_readAll_14 (by decide) ?_
    refine lv_aload_n hx hb d_Let_readAll_17 rfl (lv_at hl 0 rfl) ?_
    refine xk_get (C := R_Let) (T := F_Let) (N := 5) hx hb hts i_Let hown hK hP 28 xw_C_at_28 rfl 2 (by decide) u_165 rfl d_Let_readAll_18 ?_
    refine lv_isub hx hb d_Let_readAll_21 ?_
    obtain ⟨q8, q9⟩ := xo_s2 hF
    subst q8
    subst q9
    exact hret 22 _ _ _ d_Let_readAll_22 rfl hP hS
  · intro o3 t4 ey H locs ls hP hS hl
    subst ey
    replace hF := xo_u2e (xo_elR hF)
    refine lv_iload_n hx hb d_Let_readAll_43 rfl (lv_at hl 0 rfl) ?_
    obtain ⟨q8, q9⟩ := xo_s2 hF
    subst q8
    subst q9
    exact hret 44 _ _ _ d_Let_readAll_44 rfl hP hS
set_option maxHeartbeats 4000000 in
set_option maxRecDepth 100000 in
theorem c_Let_putStatement (l : Launch) (D : va_G) (cI cZ : ClassId) (ad : Nat → Nat) (A : Nat → Prop) (adK adV : Nat → Nat) (hDw : ∀ st : XS, va_D A (xw_C ad cI cZ st)) (st : XS) (r9 : Int32) (st9 : XS) (hF : F_Let_putStatement  st = some (r9, st9)) : K_I l D cI cZ A adK adV (xw_C ad cI cZ) y_Let_putStatement b_Let_putStatement 2 (some .boolean) 3 71 [.ref (ad 28), .ref (ad 8)] st r9 st9 := by
  refine xk_startI (by decide) .boolean rfl (Nat.le_of_ble_eq_true rfl) ?_
  intro p e s m args below meth c Q ls hx hb hml hown hts hK hE hP hS hl hret
  replace hown : s.vm.findClass R_Let = some m.cls := hown
  replace hl : lv_has ls 2 [(0, .ref (ad 28)), (1, .ref (ad 8))] := hl
  unfold F_Let_putStatement at hF
  refine lv_aload_n hx hb d_Let_putStatement_0 rfl (lv_at hl 0 rfl) ?_
  refine xk_get (C := R_Let) (T := F_Let) (N := 5) hx hb hts i_Let hown hK hP 28 xw_C_at_28 rfl 3 (by decide) u_166 rfl d_Let_putStatement_1 ?_
  refine lv_iconst (v := (-1 : Int32)) hx hb d_Let_putStatement_4 (by decide) ?_
  refine lv_icmp_ne (tgt := 25) hx hb d_Let_putStatement_5 (by decide) (fun c_74 => ?_) (fun c_74 => ?_)
  · replace hF := xo_if_f c_74 hF
    refine lv_aload_n hx hb d_Let_putStatement_25 rfl (lv_at hl 1 rfl) ?_
    refine lv_aload_n hx hb d_Let_putStatement_26 rfl (lv_at hl 0 rfl) ?_
    refine xk_get (C := R_Let) (T := F_Let) (N := 5) hx hb hts i_Let hown hK hP 28 xw_C_at_28 rfl 3 (by decide) u_166 rfl d_Let_putStatement_27 ?_
    refine lv_aload_n hx hb d_Let_putStatement_30 rfl (lv_at hl 0 rfl) ?_
    refine xk_get (C := R_Let) (T := F_Let) (N := 5) hx hb hts i_Let hown hK hP 28 xw_C_at_28 rfl 4 (by decide) u_167 rfl d_Let_putStatement_31 ?_
    refine lv_iconst (v := (0 : Int32)) hx hb d_Let_putStatement_34 (by decide) ?_
    obtain ⟨v6, h_v6, hF⟩ := xo_ob hF
    refine xk_iald hx hb hK hP 30 xw_C_at_30 h_v6 d_Let_putStatement_35 ?_
    refine lv_aload_n hx hb d_Let_putStatement_36 rfl (lv_at hl 0 rfl) ?_
    refine xk_get (C := R_Let) (T := F_Let) (N := 5) hx hb hts i_Let hown hK hP 28 xw_C_at_28 rfl 4 (by decide) u_167 rfl d_Let_putStatement_37 ?_
    refine lv_iconst (v := (1 : Int32)) hx hb d_Let_putStatement_40 (by decide) ?_
    obtain ⟨v7, h_v7, hF⟩ := xo_ob hF
    refine xk_iald hx hb hK hP 30 xw_C_at_30 h_v7 d_Let_putStatement_41 ?_
    refine lv_aload_n hx hb d_Let_putStatement_42 rfl (lv_at hl 0 rfl) ?_
    refine xk_get (C := R_Let) (T := F_Let) (N := 5) hx hb hts i_Let hown hK hP 28 xw_C_at_28 rfl 4 (by decide) u_167 rfl d_Let_putStatement_43 ?_
    refine lv_iconst (v := (2 : Int32)) hx hb d_Let_putStatement_46 (by decide) ?_
    obtain ⟨v8, h_v8, hF⟩ := xo_ob hF
    refine xk_iald hx hb hK hP 30 xw_C_at_30 h_v8 d_Let_putStatement_47 ?_
    obtain ⟨v9, t10, h_v9, hF⟩ := xo_ob2 hF
    refine xk_goI (xk_runV (As := [.int (st.1 28 3), .int v6, .int v7, .int v8]) (rest := []) hx hb hml hown hts hK hE (fun _ h => h) hP hS ok_Tow_putStreet in_Tow_putStreet u_413 (c_Tow_putStreet l D cI cZ ad A adK adV hDw (st.1 28 3) v6 v7 v8 st v9 t10 h_v9) (va_recv hK hP (ci := 2) (q0 := 8) rfl xw_C_at_8) (by decide) rfl hl.1 rfl (Nat.le_of_ble_eq_true rfl) d_Let_putStatement_48 ⟨Nat.le_refl _, Nat.le_refl _⟩) (fun _ h => h) hS (fun H locs hP hS => ?_)
    obtain ⟨v11, h_v11, hF⟩ := xo_ob hF
    obtain ⟨e_v11, h_v11⟩ := xo_cb_e h_v11
    refine W.eq (g2 := F0 m 51 _ [.int v11]) (by rw [e_v11]) ?_
    obtain ⟨q8, q9⟩ := xo_s2 hF
    subst q8
    subst q9
    exact hret 51 _ _ _ d_Let_putStatement_51 (by rcases h_v11 with h | h <;> rw [h] <;> rfl) hP hS
  · replace hF := xo_if_t c_74 hF
    refine lv_aload_n hx hb d_Let_putStatement_8 rfl (lv_at hl 1 rfl) ?_
    refine lv_aload_n hx hb d_Let_putStatement_9 rfl (lv_at hl 0 rfl) ?_
    refine xk_get (C := R_Let) (T := F_Let) (N := 5) hx hb hts i_Let hown hK hP 28 xw_C_at_28 rfl 4 (by decide) u_167 rfl d_Let_putStatement_10 ?_
    refine lv_iconst (v := (0 : Int32)) hx hb d_Let_putStatement_13 (by decide) ?_
    obtain ⟨v1, h_v1, hF⟩ := xo_ob hF
    refine xk_iald hx hb hK hP 30 xw_C_at_30 h_v1 d_Let_putStatement_14 ?_
    refine lv_aload_n hx hb d_Let_putStatement_15 rfl (lv_at hl 0 rfl) ?_
    refine xk_get (C := R_Let) (T := F_Let) (N := 5) hx hb hts i_Let hown hK hP 28 xw_C_at_28 rfl 4 (by decide) u_167 rfl d_Let_putStatement_16 ?_
    refine lv_iconst (v := (1 : Int32)) hx hb d_Let_putStatement_19 (by decide) ?_
    obtain ⟨v2, h_v2, hF⟩ := xo_ob hF
    refine xk_iald hx hb hK hP 30 xw_C_at_30 h_v2 d_Let_putStatement_20 ?_
    obtain ⟨v3, t4, h_v3, hF⟩ := xo_ob2 hF
    refine xk_goI (xk_runV (As := [.int v1, .int v2]) (rest := []) hx hb hml hown hts hK hE (fun _ h => h) hP hS ok_Tow_putPlot in_Tow_putPlot u_409 (c_Tow_putPlot l D cI cZ ad A adK adV hDw v1 v2 st v3 t4 h_v3) (va_recv hK hP (ci := 2) (q0 := 8) rfl xw_C_at_8) (by decide) rfl hl.1 rfl (Nat.le_of_ble_eq_true rfl) d_Let_putStatement_21 ⟨Nat.le_refl _, Nat.le_refl _⟩) (fun _ h => h) hS (fun H locs hP hS => ?_)
    obtain ⟨v5, h_v5, hF⟩ := xo_ob hF
    obtain ⟨e_v5, h_v5⟩ := xo_cb_e h_v5
    refine W.eq (g2 := F0 m 24 _ [.int v5]) (by rw [e_v5]) ?_
    obtain ⟨q8, q9⟩ := xo_s2 hF
    subst q8
    subst q9
    exact hret 24 _ _ _ d_Let_putStatement_24 (by rcases h_v5 with h | h <;> rw [h] <;> rfl) hP hS
set_option maxHeartbeats 4000000 in
set_option maxRecDepth 100000 in
theorem c_Let_readInto (l : Launch) (D : va_G) (cI cZ : ClassId) (ad : Nat → Nat) (A : Nat → Prop) (adK adV : Nat → Nat) (hDw : ∀ st : XS, va_D A (xw_C ad cI cZ st)) (st : XS) (r9 : Int32) (st9 : XS) (hF : F_Let_readInto  st = some (r9, st9)) : K_I l D cI cZ A adK adV (xw_C ad cI cZ) y_Let_readInto b_Let_readInto 5 (some .int) 7 152 [.ref (ad 28), .ref (ad 8)] st r9 st9 := by
  refine xk_startI (by decide) .int rfl (Nat.le_of_ble_eq_true rfl) ?_
  intro p e s m args below meth c Q ls hx hb hml hown hts hK hE hP hS hl hret
  replace hown : s.vm.findClass R_Let = some m.cls := hown
  replace hl : lv_has ls 5 [(0, .ref (ad 28)), (1, .ref (ad 8))] := hl
  unfold F_Let_readInto at hF
  refine lv_aload_n hx hb d_Let_readInto_0 rfl (lv_at hl 0 rfl) ?_
  obtain ⟨v1, t2, h_v1, hF⟩ := xo_ob2 hF
  refine xk_goI (xk_runV (As := []) (rest := []) hx hb hml hown hts hK hE (fun _ h => h) hP hS ok_Let_readAll in_Let_readAll u_294 (c_Let_readAll l D cI cZ ad A adK adV hDw st v1 t2 h_v1) (va_recv hK hP (ci := 0) (q0 := 28) rfl xw_C_at_28) (by decide) rfl hl.1 rfl (Nat.le_of_ble_eq_true rfl) d_Let_readInto_1 ⟨Nat.le_refl _, Nat.le_refl _⟩) (fun _ h => h) hS (fun H locs hP hS => ?_)
  refine lv_istore_n (lv' := [(2, .int v1), (0, .ref (ad 28)), (1, .ref (ad 8))]) hx hb d_Let_readInto_4 rfl hl (by decide) rfl (fun ls hl => ?_)
  refine lv_iload_n hx hb d_Let_readInto_5 rfl (lv_at hl 0 rfl) ?_
  refine lv_if_ge (tgt := 11) hx hb d_Let_readInto_6 (by decide) (fun c_75 => ?_) (fun c_75 => ?_)
  · replace hF := xo_if_t c_75 hF
    refine lv_aload_n hx hb d_Let_readInto_11 rfl (lv_at hl 1 rfl) ?_
    refine lv_iconst (v := (0 : Int32)) hx hb d_Let_readInto_12 (by decide) ?_
    obtain ⟨t3, e_t3, hF⟩ := xo_nm_e hF
    refine xk_put (C := R_Let) (T := F_Let) (N := 5) (ty := .int) hx hb hts i_Let t_Let t_Let_ok n_Let hown hK hP (hDw _) hS 28 xw_C_at_28 rfl 2 (by decide) u_165 rfl (by decide +kernel) rfl rfl (Nat.le_of_ble_eq_true rfl) (xw_C_put_28_2 _) d_Let_readInto_13 (fun H locs hP hS => ?_)
    replace hP : va_P D classes (xw_C ad cI cZ t3) H := by rw [e_t3]; exact hP
    clear e_t3
    refine lv_iconst (v := (0 : Int32)) hx hb d_Let_readInto_16 (by decide) ?_
    refine lv_istore_n (lv' := [(3, .int (0 : Int32)), (2, .int v1), (0, .ref (ad 28)), (1, .ref (ad 8))]) hx hb d_Let_readInto_17 rfl hl (by decide) rfl (fun ls hl => ?_)
    have lp18 : ∀ (n : Nat) (w18_3 : Int32) (w18_s : XS) (y : ((Int32 × XS) ⊕ XS)), xo_lp (fun q : (Int32 × XS) => F_Let_readInto_b18 v1 q.1 q.2) n (w18_3, w18_s) = some y → (∀ (e4 : Int32) (es : XS), (.inl (e4, es)) = y → ∀ (H : Heap) (locs : List Loc) (ls : Array Slot), va_P D classes (xw_C ad cI cZ es) H → va_S A s.heap H locs → lv_has ls 5 [(4, .int e4)] → W p l e (xk_rm 7 152) s m args below meth c H locs 0 0 Q (F0 m 44 ls [])) → (∀  (es : XS), (.inr es) = y → ∀ (H : Heap) (locs : List Loc) (ls : Array Slot), va_P D classes (xw_C ad cI cZ es) H → va_S A s.heap H locs → lv_has ls 5 [(2, .int v1)] → W p l e (xk_rm 7 152) s m args below meth c H locs 0 0 Q (F0 m 57 ls [])) → ∀ (H : Heap) (locs : List Loc) (ls : Array Slot), va_P D classes (xw_C ad cI cZ w18_s) H → va_S A s.heap H locs → lv_has ls 5 [(0, .ref (ad 28)), (1, .ref (ad 8)), (2, .int v1), (3, .int w18_3)] → W p l e (xk_rm 7 152) s m args below meth c H locs 0 0 Q (F0 m 18 ls []) := by
      intro n
      induction n with
      | zero =>
        intro w18_3 w18_s y hL
        exact nomatch (show (none : Option _) = some y from hL)
      | succ n ih =>
        intro w18_3 w18_s y hL kx0 kx1 H locs ls hP hS hl
        obtain ⟨z9, hB, hL⟩ := xo_lp_s hL
        replace hB : F_Let_readInto_b18 v1 w18_3 w18_s = some z9 := hB
        unfold F_Let_readInto_b18 at hB
        refine lv_iload_n hx hb d_Let_readInto_18 rfl (lv_at hl 3 rfl) ?_
        refine lv_iload_n hx hb d_Let_readInto_19 rfl (lv_at hl 2 rfl) ?_
        refine lv_icmp_ge (tgt := 57) hx hb d_Let_readInto_20 (by decide) (fun c_76 => ?_) (fun c_76 => ?_)
        · replace hB := xo_if_t c_76 hB
          have q9 := Option.some.inj hB
          subst q9
          replace hL := Option.some.inj (xo_elR hL)
          subst hL
          exact kx1 _ rfl _ _ _ hP hS (lv_sub hl [2] rfl)
        · replace hB := xo_if_f c_76 hB
          refine lv_aload_n hx hb d_Let_readInto_23 rfl (lv_at hl 0 rfl) ?_
          refine xk_get (C := R_Let) (T := F_Let) (N := 5) hx hb hts i_Let hown hK hP 28 xw_C_at_28 rfl 2 (by decide) u_165 rfl d_Let_readInto_24 ?_
          refine lv_topi (fun v7 e_v7 => ?_)
          replace hB := xo_nm_u hB e_v7
          clear e_v7
          refine lv_istore (lv' := [(4, .int v7), (0, .ref (ad 28)), (1, .ref (ad 8)), (2, .int v1), (3, .int w18_3)]) hx hb d_Let_readInto_27 hl (by decide) rfl (fun ls hl => ?_)
          refine lv_aload_n hx hb d_Let_readInto_29 rfl (lv_at hl 1 rfl) ?_
          obtain ⟨v8, t9, h_v8, hB⟩ := xo_ob2 hB
          refine xk_goI (xk_runV (As := []) (rest := []) hx hb hml hown hts hK hE (fun _ h => h) hP hS ok_Let_readStatement in_Let_readStatement u_298 (c_Let_readStatement l D cI cZ ad A adK adV hDw w18_s v8 t9 h_v8) (va_recv hK hP (ci := 0) (q0 := 28) rfl xw_C_at_28) (by decide) rfl hl.1 rfl (Nat.le_of_ble_eq_true rfl) d_Let_readInto_30 ⟨Nat.le_refl _, Nat.le_refl _⟩) (fun _ h => h) hS (fun H locs hP hS => ?_)
          refine lv_if_eq (tgt := 44) hx hb d_Let_readInto_33 (by decide) (fun c_77 => ?_) (fun c_77 => ?_)
          · replace hB := xo_if_t c_77 hB
            have q9 := Option.some.inj hB
            subst q9
            replace hL := Option.some.inj (xo_elR hL)
            subst hL
            exact kx0 _ _ rfl _ _ _ hP hS (lv_sub hl [0] rfl)
          · replace hB := xo_if_f c_77 hB
            refine lv_aload_n hx hb d_Let_readInto_36 rfl (lv_at hl 1 rfl) ?_
            refine lv_aload_n hx hb d_Let_readInto_37 rfl (lv_at hl 2 rfl) ?_
            obtain ⟨v10, t11, h_v10, hB⟩ := xo_ob2 hB
            refine xk_goI (xk_runV (As := [.ref (ad 8)]) (rest := []) hx hb hml hown hts hK hE (fun _ h => h) hP hS ok_Let_putStatement in_Let_putStatement u_405 (c_Let_putStatement l D cI cZ ad A adK adV hDw t9 v10 t11 h_v10) (va_recv hK hP (ci := 0) (q0 := 28) rfl xw_C_at_28) (by decide) rfl hl.1 rfl (Nat.le_of_ble_eq_true rfl) d_Let_readInto_38 ⟨Nat.le_refl _, Nat.le_refl _⟩) (fun _ h => h) hS (fun H locs hP hS => ?_)
            refine lv_if_ne (tgt := 51) hx hb d_Let_readInto_41 (by decide) (fun c_78 => ?_) (fun c_78 => ?_)
            · replace hB := xo_if_f c_78 hB
              obtain ⟨v12, e_v12, hB⟩ := xo_nm_e hB
              refine lv_iinc (v := v12) (lv' := [(3, .int v12), (4, .int v7), (0, .ref (ad 28)), (1, .ref (ad 8)), (2, .int v1)]) hx hb d_Let_readInto_51 hl (k := 4) rfl (by rw [e_v12]; rfl) (by decide) rfl (fun ls hl => ?_)
              clear e_v12
              refine lv_goto (tgt := 18) hx hb d_Let_readInto_54 (by decide) ?_
              have q9 := Option.some.inj hB
              subst q9
              exact ih _ _ _ (xo_elL hL) kx0 kx1 _ _ _ hP hS (lv_sub hl [2, 3, 4, 0] rfl)
            · replace hB := xo_if_t c_78 hB
              have q9 := Option.some.inj hB
              subst q9
              replace hL := Option.some.inj (xo_elR hL)
              subst hL
              exact kx0 _ _ rfl _ _ _ hP hS (lv_sub hl [0] rfl)
    obtain ⟨y18, hL18, hF⟩ := xo_ob hF
    refine lp18 1000000 (0 : Int32) t3 y18 hL18 ?_ ?_ _ _ _ hP hS (lv_sub hl [2, 3, 1, 0] rfl)
    · intro o4 t5 ey H locs ls hP hS hl
      subst ey
      replace hF := xo_u2e (xo_elL hF)
      refine lv_sipush (v := (-2000 : Int32)) hx hb d_Let_readInto_44 (by decide) ?_
      refine lv_iload hx hb d_Let_readInto_47 (lv_at hl 0 rfl) ?_
      refine lv_isub hx hb d_Let_readInto_49 ?_
      obtain ⟨q8, q9⟩ := xo_s2 hF
      subst q8
      subst q9
      exact hret 50 _ _ _ d_Let_readInto_50 rfl hP hS
    · intro t6 ey H locs ls hP hS hl
      subst ey
      replace hF := xo_elR hF
      refine lv_iload_n hx hb d_Let_readInto_57 rfl (lv_at hl 0 rfl) ?_
      obtain ⟨q8, q9⟩ := xo_s2 hF
      subst q8
      subst q9
      exact hret 58 _ _ _ d_Let_readInto_58 rfl hP hS
  · replace hF := xo_if_f c_75 hF
    refine lv_iload_n hx hb d_Let_readInto_9 rfl (lv_at hl 0 rfl) ?_
    obtain ⟨q8, q9⟩ := xo_s2 hF
    subst q8
    subst q9
    exact hret 10 _ _ _ d_Let_readInto_10 rfl hP hS
set_option maxHeartbeats 4000000 in
set_option maxRecDepth 100000 in
theorem c_Let_clear (l : Launch) (D : va_G) (cI cZ : ClassId) (ad : Nat → Nat) (A : Nat → Prop) (adK adV : Nat → Nat) (hDw : ∀ st : XS, va_D A (xw_C ad cI cZ st)) (st : XS) (st9 : XS) (hF : F_Let_clear  st = some st9) : K_V l D cI cZ A adK adV (xw_C ad cI cZ) y_Let_clear b_Let_clear 1 none 0 0 [.ref (ad 28)] st st9 := by
  refine xk_startV (by decide) rfl (Nat.le_of_ble_eq_true rfl) ?_
  intro p e s m args below meth c Q ls hx hb hml hown hts hK hE hP hS hl hret
  replace hown : s.vm.findClass R_Let = some m.cls := hown
  replace hl : lv_has ls 1 [(0, .ref (ad 28))] := hl
  unfold F_Let_clear at hF
  refine lv_aload_n hx hb d_Let_clear_0 rfl (lv_at hl 0 rfl) ?_
  refine lv_iconst (v := (0 : Int32)) hx hb d_Let_clear_1 (by decide) ?_
  obtain ⟨t1, e_t1, hF⟩ := xo_nm_e hF
  refine xk_put (C := R_Let) (T := F_Let) (N := 5) (ty := .int) hx hb hts i_Let t_Let t_Let_ok n_Let hown hK hP (hDw _) hS 28 xw_C_at_28 rfl 1 (by decide) u_163 rfl (by decide +kernel) rfl rfl (Nat.le_of_ble_eq_true rfl) (xw_C_put_28_1 _) d_Let_clear_2 (fun H locs hP hS => ?_)
  replace hP : va_P D classes (xw_C ad cI cZ t1) H := by rw [e_t1]; exact hP
  clear e_t1
  have q9 := Option.some.inj hF
  subst q9
  exact hret 5 _ _ _ d_Let_clear_5 hP hS
