set_option maxHeartbeats 4000000 in
set_option maxRecDepth 100000 in
theorem c_All_refuse (l : Launch) (D : va_G) (cI cZ : ClassId) (ad : Nat → Nat) (A : Nat → Prop) (adK adV : Nat → Nat) (hDw : ∀ st : XS, va_D A (xw_C ad cI cZ st)) (x1 : Int32) (st : XS) (r9 : Int32) (st9 : XS) (hF : F_All_refuse x1 st = some (r9, st9)) : K_I l D cI cZ A adK adV (xw_C ad cI cZ) y_All_refuse b_All_refuse 3 (some .int) 0 0 [.ref (ad 0), .int x1] st r9 st9 := by
  refine xk_startI (by decide) .int rfl (Nat.le_of_ble_eq_true rfl) ?_
  intro p e s m args below meth c Q ls hx hb hml hown hts hK hE hP hS hl hret
  replace hown : s.vm.findClass R_All = some m.cls := hown
  replace hl : lv_has ls 3 [(0, .ref (ad 0)), (1, .int x1)] := hl
  unfold F_All_refuse at hF
  refine lv_iload_n hx hb d_All_refuse_0 rfl (lv_at hl 1 rfl) ?_
  refine lv_ineg hx hb d_All_refuse_1 ?_
  refine lv_topi (fun v1 e_v1 => ?_)
  replace hF := xo_nm_u hF e_v1
  clear e_v1
  refine lv_istore_n (lv' := [(2, .int v1), (0, .ref (ad 0)), (1, .int x1)]) hx hb d_All_refuse_2 rfl hl (by decide) rfl (fun ls hl => ?_)
  refine lv_iload_n hx hb d_All_refuse_3 rfl (lv_at hl 0 rfl) ?_
  refine lv_if_lt (tgt := 26) hx hb d_All_refuse_4 (by decide) (fun c_19 => ?_) (fun c_19 => ?_)
  · replace hF := xo_if_t c_19 hF
    refine lv_iload_n hx hb d_All_refuse_26 rfl (lv_at hl 2 rfl) ?_
    obtain ⟨q8, q9⟩ := xo_s2 hF
    subst q8
    subst q9
    exact hret 27 _ _ _ d_All_refuse_27 rfl hP hS
  · replace hF := xo_if_f c_19 hF
    refine lv_iload_n hx hb d_All_refuse_7 rfl (lv_at hl 0 rfl) ?_
    refine lv_aload_n hx hb d_All_refuse_8 rfl (lv_at hl 1 rfl) ?_
    refine xk_get (C := R_All) (T := F_All) (N := 9) hx hb hts i_All hown hK hP 0 xw_C_at_0 rfl 8 (by decide) u_242 rfl d_All_refuse_9 ?_
    refine va_alen (v := (7 : Int32)) hx hb hK hP 32 0 xw_C_at_32 rfl rfl d_All_refuse_12 ?_
    refine lv_icmp_ge (tgt := 26) hx hb d_All_refuse_13 (by decide) (fun c_20 => ?_) (fun c_20 => ?_)
    · replace hF := xo_if_t c_20 hF
      refine lv_iload_n hx hb d_All_refuse_26 rfl (lv_at hl 2 rfl) ?_
      obtain ⟨q8, q9⟩ := xo_s2 hF
      subst q8
      subst q9
      exact hret 27 _ _ _ d_All_refuse_27 rfl hP hS
    · replace hF := xo_if_f c_20 hF
      refine lv_aload_n hx hb d_All_refuse_16 rfl (lv_at hl 1 rfl) ?_
      refine xk_get (C := R_All) (T := F_All) (N := 9) hx hb hts i_All hown hK hP 0 xw_C_at_0 rfl 8 (by decide) u_242 rfl d_All_refuse_17 ?_
      refine lv_iload_n hx hb d_All_refuse_20 rfl (lv_at hl 0 rfl) ?_
      refine lv_dup2_11 hx hb d_All_refuse_21 rfl rfl ?_
      obtain ⟨v2, h_v2, hF⟩ := xo_ob hF
      refine xk_iald hx hb hK hP 32 xw_C_at_32 h_v2 d_All_refuse_22 ?_
      refine lv_iconst (v := (1 : Int32)) hx hb d_All_refuse_23 (by decide) ?_
      refine lv_iadd hx hb d_All_refuse_24 ?_
      obtain ⟨_, h_t3, hF⟩ := xo_ob hF
      obtain ⟨t3, e_t3, hF⟩ := xo_nm_e hF
      refine xk_iast hx hb hK hP (hDw _) hS 32 xw_C_at_32 h_t3 (xw_C_set_32 _) d_All_refuse_25 (fun H locs hP hS => ?_)
      replace hP : va_P D classes (xw_C ad cI cZ t3) H := by rw [e_t3]; exact hP
      clear e_t3
      refine lv_iload_n hx hb d_All_refuse_26 rfl (lv_at hl 2 rfl) ?_
      obtain ⟨q8, q9⟩ := xo_s2 hF
      subst q8
      subst q9
      exact hret 27 _ _ _ d_All_refuse_27 rfl hP hS
set_option maxHeartbeats 4000000 in
set_option maxRecDepth 100000 in
theorem c_All_letter (l : Launch) (D : va_G) (cI cZ : ClassId) (ad : Nat → Nat) (A : Nat → Prop) (adK adV : Nat → Nat) (hDw : ∀ st : XS, va_D A (xw_C ad cI cZ st)) (x1 : Int32) (st : XS) (r9 : Int32) (st9 : XS) (hF : F_All_letter x1 st = some (r9, st9)) : K_I l D cI cZ A adK adV (xw_C ad cI cZ) y_All_letter b_All_letter 2 (some .int) 2 41 [.ref (ad 0), .int x1] st r9 st9 := by
  refine xk_startI (by decide) .int rfl (Nat.le_of_ble_eq_true rfl) ?_
  intro p e s m args below meth c Q ls hx hb hml hown hts hK hE hP hS hl hret
  replace hown : s.vm.findClass R_All = some m.cls := hown
  replace hl : lv_has ls 2 [(0, .ref (ad 0)), (1, .int x1)] := hl
  unfold F_All_letter at hF
  have mg28 : ∀ (xs : XS), F_All_letter_m28 xs = some (r9, st9) → ∀ (H : Heap) (locs : List Loc) (ls : Array Slot), va_P D classes (xw_C ad cI cZ xs) H → va_S A s.heap H locs → lv_has ls 2 [(0, .ref (ad 0))] → W p l e (xk_rm 2 41) s m args below meth c H locs 0 0 Q (F0 m 28 ls []) := by
    intro xs hF H locs ls hP hS hl
    unfold F_All_letter_m28 at hF
    refine lv_aload_n hx hb d_All_letter_28 rfl (lv_at hl 0 rfl) ?_
    refine lv_bipush (v := (-6 : Int32)) hx hb d_All_letter_29 (by decide) ?_
    obtain ⟨v1, t2, h_v1, hF⟩ := xo_ob2 hF
    refine xk_goI (xk_runV (As := [.int (-6 : Int32)]) (rest := []) hx hb hml hown hts hK hE (fun _ h => h) hP hS ok_All_refuse in_All_refuse u_266 (c_All_refuse l D cI cZ ad A adK adV hDw (-6 : Int32) xs v1 t2 h_v1) (va_recv hK hP (ci := 3) (q0 := 0) rfl xw_C_at_0) (by decide) rfl hl.1 rfl (Nat.le_of_ble_eq_true rfl) d_All_letter_31 ⟨Nat.le_refl _, Nat.le_refl _⟩) (fun _ h => h) hS (fun H locs hP hS => ?_)
    obtain ⟨q8, q9⟩ := xo_s2 hF
    subst q8
    subst q9
    exact hret 34 _ _ _ d_All_letter_34 rfl hP hS
  refine lv_iload_n hx hb d_All_letter_0 rfl (lv_at hl 1 rfl) ?_
  refine lv_if_ge (tgt := 11) hx hb d_All_letter_1 (by decide) (fun c_23 => ?_) (fun c_23 => ?_)
  · replace hF := xo_if_t c_23 hF
    refine lv_iload_n hx hb d_All_letter_11 rfl (lv_at hl 1 rfl) ?_
    refine lv_sipush (v := (255 : Int32)) hx hb d_All_letter_12 (by decide) ?_
    refine lv_icmp_gt (tgt := 28) hx hb d_All_letter_15 (by decide) (fun c_24 => ?_) (fun c_24 => ?_)
    · replace hF := xo_if_t c_24 hF
      exact mg28 _ hF _ _ _ hP hS (lv_sub hl [0] rfl)
    · replace hF := xo_if_f c_24 hF
      refine lv_aload_n hx hb d_All_letter_18 rfl (lv_at hl 0 rfl) ?_
      refine xk_get (C := R_All) (T := F_All) (N := 9) hx hb hts i_All hown hK hP 0 xw_C_at_0 rfl 5 (by decide) u_239 rfl d_All_letter_19 ?_
      obtain ⟨v3, h_v3, hF⟩ := xo_ob hF
      refine xk_goI (xk_runV (As := []) (rest := []) hx hb hml hown hts hK hE (fun _ h => h) hP hS ok_Let_isFull in_Let_isFull u_270 (c_Let_isFull l D cI cZ ad A adK adV hDw st v3 h_v3) (va_recv hK hP (ci := 0) (q0 := 28) rfl xw_C_at_28) (by decide) rfl hl.1 rfl (Nat.le_of_ble_eq_true rfl) d_All_letter_22 ⟨Nat.le_refl _, Nat.le_refl _⟩) (fun _ h => h) hS (fun H locs hP hS => ?_)
      refine lv_if_eq (tgt := 35) hx hb d_All_letter_25 (by decide) (fun c_25 => ?_) (fun c_25 => ?_)
      · replace hF := xo_if_t c_25 hF
        refine lv_aload_n hx hb d_All_letter_35 rfl (lv_at hl 0 rfl) ?_
        refine xk_get (C := R_All) (T := F_All) (N := 9) hx hb hts i_All hown hK hP 0 xw_C_at_0 rfl 5 (by decide) u_239 rfl d_All_letter_36 ?_
        refine lv_iload_n hx hb d_All_letter_39 rfl (lv_at hl 1 rfl) ?_
        obtain ⟨v4, t5, h_v4, hF⟩ := xo_ob2 hF
        refine xk_goI (xk_runV (As := [.int x1]) (rest := []) hx hb hml hown hts hK hE (fun _ h => h) hP hS ok_Let_put in_Let_put u_274 (c_Let_put l D cI cZ ad A adK adV hDw x1 st v4 t5 h_v4) (va_recv hK hP (ci := 0) (q0 := 28) rfl xw_C_at_28) (by decide) rfl hl.1 rfl (Nat.le_of_ble_eq_true rfl) d_All_letter_40 ⟨Nat.le_refl _, Nat.le_refl _⟩) (fun _ h => h) hS (fun H locs hP hS => ?_)
        obtain ⟨q8, q9⟩ := xo_s2 hF
        subst q8
        subst q9
        exact hret 43 _ _ _ d_All_letter_43 rfl hP hS
      · replace hF := xo_if_f c_25 hF
        exact mg28 _ hF _ _ _ hP hS (lv_sub hl [0] rfl)
  · replace hF := xo_if_f c_23 hF
    refine lv_aload_n hx hb d_All_letter_4 rfl (lv_at hl 0 rfl) ?_
    refine lv_bipush (v := (-4 : Int32)) hx hb d_All_letter_5 (by decide) ?_
    obtain ⟨v6, t7, h_v6, hF⟩ := xo_ob2 hF
    refine xk_goI (xk_runV (As := [.int (-4 : Int32)]) (rest := []) hx hb hml hown hts hK hE (fun _ h => h) hP hS ok_All_refuse in_All_refuse u_266 (c_All_refuse l D cI cZ ad A adK adV hDw (-4 : Int32) st v6 t7 h_v6) (va_recv hK hP (ci := 3) (q0 := 0) rfl xw_C_at_0) (by decide) rfl hl.1 rfl (Nat.le_of_ble_eq_true rfl) d_All_letter_7 ⟨Nat.le_refl _, Nat.le_refl _⟩) (fun _ h => h) hS (fun H locs hP hS => ?_)
    obtain ⟨q8, q9⟩ := xo_s2 hF
    subst q8
    subst q9
    exact hret 10 _ _ _ d_All_letter_10 rfl hP hS
set_option maxHeartbeats 4000000 in
set_option maxRecDepth 100000 in
theorem c_All_town (l : Launch) (D : va_G) (cI cZ : ClassId) (ad : Nat → Nat) (A : Nat → Prop) (adK adV : Nat → Nat) (hDw : ∀ st : XS, va_D A (xw_C ad cI cZ st)) (st : XS) (r9 : Int32) (st9 : XS) (hF : F_All_town  st = some (r9, st9)) : K_I l D cI cZ A adK adV (xw_C ad cI cZ) y_All_town b_All_town 2 (some .int) 8 176 [.ref (ad 0)] st r9 st9 := by
  refine xk_startI (by decide) .int rfl (Nat.le_of_ble_eq_true rfl) ?_
  intro p e s m args below meth c Q ls hx hb hml hown hts hK hE hP hS hl hret
  replace hown : s.vm.findClass R_All = some m.cls := hown
  replace hl : lv_has ls 2 [(0, .ref (ad 0))] := hl
  unfold F_All_town at hF
  refine lv_aload_n hx hb d_All_town_0 rfl (lv_at hl 0 rfl) ?_
  refine xk_get (C := R_All) (T := F_All) (N := 9) hx hb hts i_All hown hK hP 0 xw_C_at_0 rfl 1 (by decide) u_235 rfl d_All_town_1 ?_
  refine lv_aload_n hx hb d_All_town_4 rfl (lv_at hl 0 rfl) ?_
  refine xk_get (C := R_All) (T := F_All) (N := 9) hx hb hts i_All hown hK hP 0 xw_C_at_0 rfl 0 (by decide) u_234 rfl d_All_town_5 ?_
  obtain ⟨t1, h_t1, hF⟩ := xo_ob hF
  refine xk_goV (xk_runV (As := [.ref (ad 1)]) (rest := []) hx hb hml hown hts hK hE (fun _ h => h) hP hS ok_Tow_copyFrom in_Tow_copyFrom u_283 (c_Tow_copyFrom l D cI cZ ad A adK adV hDw st t1 h_t1) (va_recv hK hP (ci := 2) (q0 := 8) rfl xw_C_at_8) (by decide) rfl hl.1 rfl (Nat.le_of_ble_eq_true rfl) d_All_town_8 ⟨Nat.le_refl _, Nat.le_refl _⟩) (fun _ h => h) hS (fun H locs hP hS => ?_)
  refine lv_aload_n hx hb d_All_town_11 rfl (lv_at hl 0 rfl) ?_
  refine xk_get (C := R_All) (T := F_All) (N := 9) hx hb hts i_All hown hK hP 0 xw_C_at_0 rfl 5 (by decide) u_239 rfl d_All_town_12 ?_
  refine lv_aload_n hx hb d_All_town_15 rfl (lv_at hl 0 rfl) ?_
  refine xk_get (C := R_All) (T := F_All) (N := 9) hx hb hts i_All hown hK hP 0 xw_C_at_0 rfl 1 (by decide) u_235 rfl d_All_town_16 ?_
  obtain ⟨v2, t3, h_v2, hF⟩ := xo_ob2 hF
  refine xk_goI (xk_runV (As := [.ref (ad 8)]) (rest := []) hx hb hml hown hts hK hE (fun _ h => h) hP hS ok_Let_readInto in_Let_readInto u_290 (c_Let_readInto l D cI cZ ad A adK adV hDw t1 v2 t3 h_v2) (va_recv hK hP (ci := 0) (q0 := 28) rfl xw_C_at_28) (by decide) rfl hl.1 rfl (Nat.le_of_ble_eq_true rfl) d_All_town_19 ⟨Nat.le_refl _, Nat.le_refl _⟩) (fun _ h => h) hS (fun H locs hP hS => ?_)
  refine lv_istore_n (lv' := [(1, .int v2), (0, .ref (ad 0))]) hx hb d_All_town_22 rfl hl (by decide) rfl (fun ls hl => ?_)
  refine lv_aload_n hx hb d_All_town_23 rfl (lv_at hl 1 rfl) ?_
  refine xk_get (C := R_All) (T := F_All) (N := 9) hx hb hts i_All hown hK hP 0 xw_C_at_0 rfl 5 (by decide) u_239 rfl d_All_town_24 ?_
  obtain ⟨t4, h_t4, hF⟩ := xo_ob hF
  refine xk_goV (xk_runV (As := []) (rest := []) hx hb hml hown hts hK hE (fun _ h => h) hP hS ok_Let_clear in_Let_clear u_421 (c_Let_clear l D cI cZ ad A adK adV hDw t3 t4 h_t4) (va_recv hK hP (ci := 0) (q0 := 28) rfl xw_C_at_28) (by decide) rfl hl.1 rfl (Nat.le_of_ble_eq_true rfl) d_All_town_27 ⟨Nat.le_refl _, Nat.le_refl _⟩) (fun _ h => h) hS (fun H locs hP hS => ?_)
  refine lv_iload_n hx hb d_All_town_30 rfl (lv_at hl 0 rfl) ?_
  refine lv_if_le (tgt := 52) hx hb d_All_town_31 (by decide) (fun c_79 => ?_) (fun c_79 => ?_)
  · replace hF := xo_if_t c_79 hF
    refine lv_iload_n hx hb d_All_town_52 rfl (lv_at hl 0 rfl) ?_
    obtain ⟨q8, q9⟩ := xo_s2 hF
    subst q8
    subst q9
    exact hret 53 _ _ _ d_All_town_53 rfl hP hS
  · replace hF := xo_if_f c_79 hF
    refine lv_aload_n hx hb d_All_town_34 rfl (lv_at hl 1 rfl) ?_
    refine xk_get (C := R_All) (T := F_All) (N := 9) hx hb hts i_All hown hK hP 0 xw_C_at_0 rfl 0 (by decide) u_234 rfl d_All_town_35 ?_
    refine lv_aload_n hx hb d_All_town_38 rfl (lv_at hl 1 rfl) ?_
    refine xk_get (C := R_All) (T := F_All) (N := 9) hx hb hts i_All hown hK hP 0 xw_C_at_0 rfl 1 (by decide) u_235 rfl d_All_town_39 ?_
    obtain ⟨t5, h_t5, hF⟩ := xo_ob hF
    refine xk_goV (xk_runV (As := [.ref (ad 8)]) (rest := []) hx hb hml hown hts hK hE (fun _ h => h) hP hS ok_Tow_copyFrom in_Tow_copyFrom u_283 (c_Tow_copyFrom_v1 l D cI cZ ad A adK adV hDw t4 t5 h_t5) (va_recv hK hP (ci := 2) (q0 := 1) rfl xw_C_at_1) (by decide) rfl hl.1 rfl (Nat.le_of_ble_eq_true rfl) d_All_town_42 ⟨Nat.le_refl _, Nat.le_refl _⟩) (fun _ h => h) hS (fun H locs hP hS => ?_)
    refine lv_aload_n hx hb d_All_town_45 rfl (lv_at hl 1 rfl) ?_
    refine xk_get (C := R_All) (T := F_All) (N := 9) hx hb hts i_All hown hK hP 0 xw_C_at_0 rfl 4 (by decide) u_238 rfl d_All_town_46 ?_
    obtain ⟨t6, h_t6, hF⟩ := xo_ob hF
    refine xk_goV (xk_runV (As := []) (rest := []) hx hb hml hown hts hK hE (fun _ h => h) hP hS ok_Pla_measure in_Pla_measure u_179 (c_Pla_measure l D cI cZ ad A adK adV hDw t5 t6 h_t6) (va_recv hK hP (ci := 1) (q0 := 22) rfl xw_C_at_22) (by decide) rfl hl.1 rfl (Nat.le_of_ble_eq_true rfl) d_All_town_49 ⟨Nat.le_refl _, Nat.le_refl _⟩) (fun _ h => h) hS (fun H locs hP hS => ?_)
    refine lv_iload_n hx hb d_All_town_52 rfl (lv_at hl 0 rfl) ?_
    obtain ⟨q8, q9⟩ := xo_s2 hF
    subst q8
    subst q9
    exact hret 53 _ _ _ d_All_town_53 rfl hP hS
set_option maxHeartbeats 4000000 in
set_option maxRecDepth 100000 in
theorem c_All_refuseFar (l : Launch) (D : va_G) (cI cZ : ClassId) (ad : Nat → Nat) (A : Nat → Prop) (adK adV : Nat → Nat) (hDw : ∀ st : XS, va_D A (xw_C ad cI cZ st)) (x1 : Int32) (st : XS) (r9 : Int32) (st9 : XS) (hF : F_All_refuseFar x1 st = some (r9, st9)) : K_I l D cI cZ A adK adV (xw_C ad cI cZ) y_All_refuseFar b_All_refuseFar 2 (some .int) 1 22 [.ref (ad 0), .int x1] st r9 st9 := by
  refine xk_startI (by decide) .int rfl (Nat.le_of_ble_eq_true rfl) ?_
  intro p e s m args below meth c Q ls hx hb hml hown hts hK hE hP hS hl hret
  replace hown : s.vm.findClass R_All = some m.cls := hown
  replace hl : lv_has ls 2 [(0, .ref (ad 0)), (1, .int x1)] := hl
  unfold F_All_refuseFar at hF
  refine lv_ldc (v := (1000000000 : Int32)) hx hb hown (hts _ u_438) d_All_refuseFar_0 ?_
  refine lv_aload_n hx hb d_All_refuseFar_2 rfl (lv_at hl 0 rfl) ?_
  refine lv_iload_n hx hb d_All_refuseFar_3 rfl (lv_at hl 1 rfl) ?_
  obtain ⟨v1, t2, h_v1, hF⟩ := xo_ob2 hF
  refine xk_goI (xk_runV (As := [.int x1]) (rest := [.int (1000000000 : Int32)]) hx hb hml hown hts hK hE (fun _ h => h) hP hS ok_All_refuse in_All_refuse u_266 (c_All_refuse l D cI cZ ad A adK adV hDw x1 st v1 t2 h_v1) (va_recv hK hP (ci := 3) (q0 := 0) rfl xw_C_at_0) (by decide) rfl hl.1 rfl (Nat.le_of_ble_eq_true rfl) d_All_refuseFar_4 ⟨Nat.le_refl _, Nat.le_refl _⟩) (fun _ h => h) hS (fun H locs hP hS => ?_)
  refine lv_isub hx hb d_All_refuseFar_7 ?_
  obtain ⟨q8, q9⟩ := xo_s2 hF
  subst q8
  subst q9
  exact hret 8 _ _ _ d_All_refuseFar_8 rfl hP hS
set_option maxHeartbeats 4000000 in
set_option maxRecDepth 100000 in
theorem c_All_street (l : Launch) (D : va_G) (cI cZ : ClassId) (ad : Nat → Nat) (A : Nat → Prop) (adK adV : Nat → Nat) (hDw : ∀ st : XS, va_D A (xw_C ad cI cZ st)) (x1 : Int32) (x2 : Int32) (st : XS) (r9 : Int32) (st9 : XS) (hF : F_All_street x1 x2 st = some (r9, st9)) : K_I l D cI cZ A adK adV (xw_C ad cI cZ) y_All_street b_All_street 3 (some .int) 3 64 [.ref (ad 0), .int x1, .int x2] st r9 st9 := by
  refine xk_startI (by decide) .int rfl (Nat.le_of_ble_eq_true rfl) ?_
  intro p e s m args below meth c Q ls hx hb hml hown hts hK hE hP hS hl hret
  replace hown : s.vm.findClass R_All = some m.cls := hown
  replace hl : lv_has ls 3 [(0, .ref (ad 0)), (1, .int x1), (2, .int x2)] := hl
  unfold F_All_street at hF
  refine lv_aload_n hx hb d_All_street_0 rfl (lv_at hl 0 rfl) ?_
  refine xk_get (C := R_All) (T := F_All) (N := 9) hx hb hts i_All hown hK hP 0 xw_C_at_0 rfl 0 (by decide) u_234 rfl d_All_street_1 ?_
  refine lv_iload_n hx hb d_All_street_4 rfl (lv_at hl 1 rfl) ?_
  obtain ⟨v1, h_v1, hF⟩ := xo_ob hF
  refine xk_goI (xk_runV (As := [.int x1]) (rest := []) hx hb hml hown hts hK hE (fun _ h => h) hP hS ok_Tow_hasStreet in_Tow_hasStreet u_430 (c_Tow_hasStreet l D cI cZ ad A adK adV hDw x1 st v1 h_v1) (va_recv hK hP (ci := 2) (q0 := 1) rfl xw_C_at_1) (by decide) rfl hl.1 rfl (Nat.le_of_ble_eq_true rfl) d_All_street_5 ⟨Nat.le_refl _, Nat.le_refl _⟩) (fun _ h => h) hS (fun H locs hP hS => ?_)
  refine lv_if_ne (tgt := 17) hx hb d_All_street_8 (by decide) (fun c_92 => ?_) (fun c_92 => ?_)
  · replace hF := xo_if_f c_92 hF
    refine lv_iload_n hx hb d_All_street_17 rfl (lv_at hl 2 rfl) ?_
    by_cases c_93 : x2 = (0 : Int32)
    · replace hF := xo_if_t c_93 hF
      refine lv_tableIn (off := 34) (tgt := 52) hx hb d_All_street_18 (by rw [c_93]; decide) (by rw [c_93]; decide) (by rw [c_93]; decide) (by decide) ?_
      refine lv_aload_n hx hb d_All_street_52 rfl (lv_at hl 0 rfl) ?_
      refine xk_get (C := R_All) (T := F_All) (N := 9) hx hb hts i_All hown hK hP 0 xw_C_at_0 rfl 0 (by decide) u_234 rfl d_All_street_53 ?_
      refine xk_get (C := R_Tow) (T := F_Tow) (N := 8) hx hb hts i_Tow hown hK hP 1 xw_C_at_1 rfl 0 (by decide) u_78 rfl d_All_street_56 ?_
      refine lv_iload_n hx hb d_All_street_59 rfl (lv_at hl 1 rfl) ?_
      obtain ⟨v4, h_v4, hF⟩ := xo_ob hF
      refine xk_iald hx hb hK hP 2 xw_C_at_2 h_v4 d_All_street_60 ?_
      obtain ⟨q8, q9⟩ := xo_s2 hF
      subst q8
      subst q9
      exact hret 61 _ _ _ d_All_street_61 rfl hP hS
    · replace hF := xo_if_f c_93 hF
      by_cases c_94 : x2 = (1 : Int32)
      · replace hF := xo_if_t c_94 hF
        refine lv_tableIn (off := 44) (tgt := 62) hx hb d_All_street_18 (by rw [c_94]; decide) (by rw [c_94]; decide) (by rw [c_94]; decide) (by decide) ?_
        refine lv_aload_n hx hb d_All_street_62 rfl (lv_at hl 0 rfl) ?_
        refine xk_get (C := R_All) (T := F_All) (N := 9) hx hb hts i_All hown hK hP 0 xw_C_at_0 rfl 0 (by decide) u_234 rfl d_All_street_63 ?_
        refine xk_get (C := R_Tow) (T := F_Tow) (N := 8) hx hb hts i_Tow hown hK hP 1 xw_C_at_1 rfl 1 (by decide) u_81 rfl d_All_street_66 ?_
        refine lv_iload_n hx hb d_All_street_69 rfl (lv_at hl 1 rfl) ?_
        obtain ⟨v5, h_v5, hF⟩ := xo_ob hF
        refine xk_iald hx hb hK hP 3 xw_C_at_3 h_v5 d_All_street_70 ?_
        obtain ⟨q8, q9⟩ := xo_s2 hF
        subst q8
        subst q9
        exact hret 71 _ _ _ d_All_street_71 rfl hP hS
      · replace hF := xo_if_f c_94 hF
        by_cases c_95 : x2 = (2 : Int32)
        · replace hF := xo_if_t c_95 hF
          refine lv_tableIn (off := 54) (tgt := 72) hx hb d_All_street_18 (by rw [c_95]; decide) (by rw [c_95]; decide) (by rw [c_95]; decide) (by decide) ?_
          refine lv_aload_n hx hb d_All_street_72 rfl (lv_at hl 0 rfl) ?_
          refine xk_get (C := R_All) (T := F_All) (N := 9) hx hb hts i_All hown hK hP 0 xw_C_at_0 rfl 0 (by decide) u_234 rfl d_All_street_73 ?_
          refine xk_get (C := R_Tow) (T := F_Tow) (N := 8) hx hb hts i_Tow hown hK hP 1 xw_C_at_1 rfl 2 (by decide) u_84 rfl d_All_street_76 ?_
          refine lv_iload_n hx hb d_All_street_79 rfl (lv_at hl 1 rfl) ?_
          obtain ⟨v6, h_v6, hF⟩ := xo_ob hF
          refine xk_iald hx hb hK hP 4 xw_C_at_4 h_v6 d_All_street_80 ?_
          obtain ⟨q8, q9⟩ := xo_s2 hF
          subst q8
          subst q9
          exact hret 81 _ _ _ d_All_street_81 rfl hP hS
        · replace hF := xo_if_f c_95 hF
          by_cases c_96 : x2 = (3 : Int32)
          · replace hF := xo_if_t c_96 hF
            refine lv_tableIn (off := 64) (tgt := 82) hx hb d_All_street_18 (by rw [c_96]; decide) (by rw [c_96]; decide) (by rw [c_96]; decide) (by decide) ?_
            refine lv_aload_n hx hb d_All_street_82 rfl (lv_at hl 0 rfl) ?_
            refine xk_get (C := R_All) (T := F_All) (N := 9) hx hb hts i_All hown hK hP 0 xw_C_at_0 rfl 0 (by decide) u_234 rfl d_All_street_83 ?_
            refine xk_get (C := R_Tow) (T := F_Tow) (N := 8) hx hb hts i_Tow hown hK hP 1 xw_C_at_1 rfl 3 (by decide) u_87 rfl d_All_street_86 ?_
            refine lv_iload_n hx hb d_All_street_89 rfl (lv_at hl 1 rfl) ?_
            obtain ⟨v7, h_v7, hF⟩ := xo_ob hF
            refine xk_iald hx hb hK hP 5 xw_C_at_5 h_v7 d_All_street_90 ?_
            obtain ⟨q8, q9⟩ := xo_s2 hF
            subst q8
            subst q9
            exact hret 91 _ _ _ d_All_street_91 rfl hP hS
          · replace hF := xo_if_f c_96 hF
            by_cases c_97 : x2 = (4 : Int32)
            · replace hF := xo_if_t c_97 hF
              refine lv_tableIn (off := 74) (tgt := 92) hx hb d_All_street_18 (by rw [c_97]; decide) (by rw [c_97]; decide) (by rw [c_97]; decide) (by decide) ?_
              refine lv_aload_n hx hb d_All_street_92 rfl (lv_at hl 0 rfl) ?_
              refine xk_get (C := R_All) (T := F_All) (N := 9) hx hb hts i_All hown hK hP 0 xw_C_at_0 rfl 4 (by decide) u_238 rfl d_All_street_93 ?_
              refine lv_iload_n hx hb d_All_street_96 rfl (lv_at hl 1 rfl) ?_
              obtain ⟨v8, h_v8, hF⟩ := xo_ob hF
              refine xk_goI (xk_runV (As := [.int x1]) (rest := []) hx hb hml hown hts hK hE (fun _ h => h) hP hS ok_Pla_lampsFrom in_Pla_lampsFrom u_439 (c_Pla_lampsFrom l D cI cZ ad A adK adV hDw x1 st v8 h_v8) (va_recv hK hP (ci := 1) (q0 := 22) rfl xw_C_at_22) (by decide) rfl hl.1 rfl (Nat.le_of_ble_eq_true rfl) d_All_street_97 ⟨Nat.le_refl _, Nat.le_refl _⟩) (fun _ h => h) hS (fun H locs hP hS => ?_)
              obtain ⟨q8, q9⟩ := xo_s2 hF
              subst q8
              subst q9
              exact hret 100 _ _ _ d_All_street_100 rfl hP hS
            · replace hF := xo_if_f c_97 hF
              refine lv_tableOut (tgt := 101) hx hb d_All_street_18 (xk_out_0_4 c_93 c_94 c_95 c_96 c_97) (by decide) ?_
              refine lv_aload_n hx hb d_All_street_101 rfl (lv_at hl 0 rfl) ?_
              refine lv_bipush (v := (-2 : Int32)) hx hb d_All_street_102 (by decide) ?_
              obtain ⟨v9, t10, h_v9, hF⟩ := xo_ob2 hF
              refine xk_goI (xk_runV (As := [.int (-2 : Int32)]) (rest := []) hx hb hml hown hts hK hE (fun _ h => h) hP hS ok_All_refuseFar in_All_refuseFar u_434 (c_All_refuseFar l D cI cZ ad A adK adV hDw (-2 : Int32) st v9 t10 h_v9) (va_recv hK hP (ci := 3) (q0 := 0) rfl xw_C_at_0) (by decide) rfl hl.1 rfl (Nat.le_of_ble_eq_true rfl) d_All_street_104 ⟨Nat.le_refl _, Nat.le_refl _⟩) (fun _ h => h) hS (fun H locs hP hS => ?_)
              obtain ⟨q8, q9⟩ := xo_s2 hF
              subst q8
              subst q9
              exact hret 107 _ _ _ d_All_street_107 rfl hP hS
  · replace hF := xo_if_t c_92 hF
    refine lv_aload_n hx hb d_All_street_11 rfl (lv_at hl 0 rfl) ?_
    refine lv_iconst (v := (-1 : Int32)) hx hb d_All_street_12 (by decide) ?_
    obtain ⟨v2, t3, h_v2, hF⟩ := xo_ob2 hF
    refine xk_goI (xk_runV (As := [.int (-1 : Int32)]) (rest := []) hx hb hml hown hts hK hE (fun _ h => h) hP hS ok_All_refuseFar in_All_refuseFar u_434 (c_All_refuseFar l D cI cZ ad A adK adV hDw (-1 : Int32) st v2 t3 h_v2) (va_recv hK hP (ci := 3) (q0 := 0) rfl xw_C_at_0) (by decide) rfl hl.1 rfl (Nat.le_of_ble_eq_true rfl) d_All_street_13 ⟨Nat.le_refl _, Nat.le_refl _⟩) (fun _ h => h) hS (fun H locs hP hS => ?_)
    obtain ⟨q8, q9⟩ := xo_s2 hF
    subst q8
    subst q9
    exact hret 16 _ _ _ d_All_street_16 rfl hP hS
set_option maxHeartbeats 4000000 in
set_option maxRecDepth 100000 in
theorem c_All_plot (l : Launch) (D : va_G) (cI cZ : ClassId) (ad : Nat → Nat) (A : Nat → Prop) (adK adV : Nat → Nat) (hDw : ∀ st : XS, va_D A (xw_C ad cI cZ st)) (x1 : Int32) (x2 : Int32) (st : XS) (r9 : Int32) (st9 : XS) (hF : F_All_plot x1 x2 st = some (r9, st9)) : K_I l D cI cZ A adK adV (xw_C ad cI cZ) y_All_plot b_All_plot 3 (some .int) 2 43 [.ref (ad 0), .int x1, .int x2] st r9 st9 := by
  refine xk_startI (by decide) .int rfl (Nat.le_of_ble_eq_true rfl) ?_
  intro p e s m args below meth c Q ls hx hb hml hown hts hK hE hP hS hl hret
  replace hown : s.vm.findClass R_All = some m.cls := hown
  replace hl : lv_has ls 3 [(0, .ref (ad 0)), (1, .int x1), (2, .int x2)] := hl
  unfold F_All_plot at hF
  refine lv_aload_n hx hb d_All_plot_0 rfl (lv_at hl 0 rfl) ?_
  refine xk_get (C := R_All) (T := F_All) (N := 9) hx hb hts i_All hown hK hP 0 xw_C_at_0 rfl 0 (by decide) u_234 rfl d_All_plot_1 ?_
  refine lv_iload_n hx hb d_All_plot_4 rfl (lv_at hl 1 rfl) ?_
  obtain ⟨v1, h_v1, hF⟩ := xo_ob hF
  refine xk_goI (xk_runV (As := [.int x1]) (rest := []) hx hb hml hown hts hK hE (fun _ h => h) hP hS ok_Tow_hasPlot in_Tow_hasPlot u_461 (c_Tow_hasPlot l D cI cZ ad A adK adV hDw x1 st v1 h_v1) (va_recv hK hP (ci := 2) (q0 := 1) rfl xw_C_at_1) (by decide) rfl hl.1 rfl (Nat.le_of_ble_eq_true rfl) d_All_plot_5 ⟨Nat.le_refl _, Nat.le_refl _⟩) (fun _ h => h) hS (fun H locs hP hS => ?_)
  refine lv_if_ne (tgt := 17) hx hb d_All_plot_8 (by decide) (fun c_100 => ?_) (fun c_100 => ?_)
  · replace hF := xo_if_f c_100 hF
    refine lv_iload_n hx hb d_All_plot_17 rfl (lv_at hl 2 rfl) ?_
    by_cases c_101 : x2 = (0 : Int32)
    · replace hF := xo_if_t c_101 hF
      refine lv_lookup (off := 26) (tgt := 44) hx hb d_All_plot_18 (by decide) (by rw [c_101]; decide) (by decide) ?_
      refine lv_aload_n hx hb d_All_plot_44 rfl (lv_at hl 0 rfl) ?_
      refine xk_get (C := R_All) (T := F_All) (N := 9) hx hb hts i_All hown hK hP 0 xw_C_at_0 rfl 0 (by decide) u_234 rfl d_All_plot_45 ?_
      refine xk_get (C := R_Tow) (T := F_Tow) (N := 8) hx hb hts i_Tow hown hK hP 1 xw_C_at_1 rfl 5 (by decide) u_93 rfl d_All_plot_48 ?_
      refine lv_iload_n hx hb d_All_plot_51 rfl (lv_at hl 1 rfl) ?_
      obtain ⟨v4, h_v4, hF⟩ := xo_ob hF
      refine xk_iald hx hb hK hP 6 xw_C_at_6 h_v4 d_All_plot_52 ?_
      obtain ⟨q8, q9⟩ := xo_s2 hF
      subst q8
      subst q9
      exact hret 53 _ _ _ d_All_plot_53 rfl hP hS
    · replace hF := xo_if_f c_101 hF
      by_cases c_102 : x2 = (1 : Int32)
      · replace hF := xo_if_t c_102 hF
        refine lv_lookup (off := 36) (tgt := 54) hx hb d_All_plot_18 (by decide) (by rw [c_102]; decide) (by decide) ?_
        refine lv_aload_n hx hb d_All_plot_54 rfl (lv_at hl 0 rfl) ?_
        refine xk_get (C := R_All) (T := F_All) (N := 9) hx hb hts i_All hown hK hP 0 xw_C_at_0 rfl 0 (by decide) u_234 rfl d_All_plot_55 ?_
        refine xk_get (C := R_Tow) (T := F_Tow) (N := 8) hx hb hts i_Tow hown hK hP 1 xw_C_at_1 rfl 6 (by decide) u_96 rfl d_All_plot_58 ?_
        refine lv_iload_n hx hb d_All_plot_61 rfl (lv_at hl 1 rfl) ?_
        obtain ⟨v5, h_v5, hF⟩ := xo_ob hF
        refine xk_iald hx hb hK hP 7 xw_C_at_7 h_v5 d_All_plot_62 ?_
        obtain ⟨q8, q9⟩ := xo_s2 hF
        subst q8
        subst q9
        exact hret 63 _ _ _ d_All_plot_63 rfl hP hS
      · replace hF := xo_if_f c_102 hF
        refine lv_lookup (off := 46) (tgt := 64) hx hb d_All_plot_18 (by decide) (xk_lk01 c_101 c_102) (by decide) ?_
        refine lv_aload_n hx hb d_All_plot_64 rfl (lv_at hl 0 rfl) ?_
        refine lv_bipush (v := (-2 : Int32)) hx hb d_All_plot_65 (by decide) ?_
        obtain ⟨v6, t7, h_v6, hF⟩ := xo_ob2 hF
        refine xk_goI (xk_runV (As := [.int (-2 : Int32)]) (rest := []) hx hb hml hown hts hK hE (fun _ h => h) hP hS ok_All_refuseFar in_All_refuseFar u_434 (c_All_refuseFar l D cI cZ ad A adK adV hDw (-2 : Int32) st v6 t7 h_v6) (va_recv hK hP (ci := 3) (q0 := 0) rfl xw_C_at_0) (by decide) rfl hl.1 rfl (Nat.le_of_ble_eq_true rfl) d_All_plot_67 ⟨Nat.le_refl _, Nat.le_refl _⟩) (fun _ h => h) hS (fun H locs hP hS => ?_)
        obtain ⟨q8, q9⟩ := xo_s2 hF
        subst q8
        subst q9
        exact hret 70 _ _ _ d_All_plot_70 rfl hP hS
  · replace hF := xo_if_t c_100 hF
    refine lv_aload_n hx hb d_All_plot_11 rfl (lv_at hl 0 rfl) ?_
    refine lv_iconst (v := (-1 : Int32)) hx hb d_All_plot_12 (by decide) ?_
    obtain ⟨v2, t3, h_v2, hF⟩ := xo_ob2 hF
    refine xk_goI (xk_runV (As := [.int (-1 : Int32)]) (rest := []) hx hb hml hown hts hK hE (fun _ h => h) hP hS ok_All_refuseFar in_All_refuseFar u_434 (c_All_refuseFar l D cI cZ ad A adK adV hDw (-1 : Int32) st v2 t3 h_v2) (va_recv hK hP (ci := 3) (q0 := 0) rfl xw_C_at_0) (by decide) rfl hl.1 rfl (Nat.le_of_ble_eq_true rfl) d_All_plot_13 ⟨Nat.le_refl _, Nat.le_refl _⟩) (fun _ h => h) hS (fun H locs hP hS => ?_)
    obtain ⟨q8, q9⟩ := xo_s2 hF
    subst q8
    subst q9
    exact hret 16 _ _ _ d_All_plot_16 rfl hP hS
set_option maxHeartbeats 4000000 in
set_option maxRecDepth 100000 in
theorem c_All_cancelled (l : Launch) (D : va_G) (cI cZ : ClassId) (ad : Nat → Nat) (A : Nat → Prop) (adK adV : Nat → Nat) (hDw : ∀ st : XS, va_D A (xw_C ad cI cZ st)) (x0 : Int32) (x1 : Int32) (x2 : Int32) (st : XS) (r9 : Int32) (hF : F_All_cancelled x0 x1 x2 = some r9) : K_I l D cI cZ A adK adV (xw_C ad cI cZ) y_All_cancelled b_All_cancelled 4 (some .int) 0 0 [.int x0, .int x1, .int x2] st r9 st := by
  refine xk_startI (by decide) .int rfl (Nat.le_of_ble_eq_true rfl) ?_
  intro p e s m args below meth c Q ls hx hb hml hown hts hK hE hP hS hl hret
  replace hown : s.vm.findClass R_All = some m.cls := hown
  replace hl : lv_has ls 4 [(0, .int x0), (1, .int x1), (2, .int x2)] := hl
  unfold F_All_cancelled at hF
  refine lv_iload_n hx hb d_All_cancelled_0 rfl (lv_at hl 2 rfl) ?_
  refine lv_istore_n (lv' := [(3, .int x2), (0, .int x0), (1, .int x1), (2, .int x2)]) hx hb d_All_cancelled_1 rfl hl (by decide) rfl (fun ls hl => ?_)
  have lp2 : ∀ (n : Nat) (w2_3 : Int32) (y : (Int32 ⊕ Unit)), xo_lp (fun q : Int32 => F_All_cancelled_b2 x0 x1 x2 q) n w2_3 = some y → (∀ (e3 : Int32), (.inl e3) = y → ∀ (H : Heap) (locs : List Loc) (ls : Array Slot), va_P D classes (xw_C ad cI cZ st) H → va_S A s.heap H locs → lv_has ls 4 [(0, .int x0), (3, .int e3)] → W p l e (xk_rm 0 0) s m args below meth c H locs 0 0 Q (F0 m 19 ls [])) → ((.inr ()) = y → ∀ (H : Heap) (locs : List Loc) (ls : Array Slot), va_P D classes (xw_C ad cI cZ st) H → va_S A s.heap H locs → lv_has ls 4 [(0, .int x0)] → W p l e (xk_rm 0 0) s m args below meth c H locs 0 0 Q (F0 m 29 ls [])) → ∀ (H : Heap) (locs : List Loc) (ls : Array Slot), va_P D classes (xw_C ad cI cZ st) H → va_S A s.heap H locs → lv_has ls 4 [(0, .int x0), (1, .int x1), (2, .int x2), (3, .int w2_3)] → W p l e (xk_rm 0 0) s m args below meth c H locs 0 0 Q (F0 m 2 ls []) := by
    intro n
    induction n with
    | zero =>
      intro w2_3 y hL
      exact nomatch (show (none : Option _) = some y from hL)
    | succ n ih =>
      intro w2_3 y hL kx0 kx1 H locs ls hP hS hl
      obtain ⟨z9, hB, hL⟩ := xo_lp_s hL
      replace hB : F_All_cancelled_b2 x0 x1 x2 w2_3 = some z9 := hB
      unfold F_All_cancelled_b2 at hB
      refine lv_iload_n hx hb d_All_cancelled_2 rfl (lv_at hl 3 rfl) ?_
      refine lv_iconst (v := (1 : Int32)) hx hb d_All_cancelled_3 (by decide) ?_
      refine lv_icmp_le (tgt := 29) hx hb d_All_cancelled_4 (by decide) (fun c_103 => ?_) (fun c_103 => ?_)
      · replace hB := xo_if_t c_103 hB
        have q9 := Option.some.inj hB
        subst q9
        replace hL := Option.some.inj (xo_elR hL)
        subst hL
        exact kx1  rfl _ _ _ hP hS (lv_sub hl [0] rfl)
      · replace hB := xo_if_f c_103 hB
        refine lv_iload_n hx hb d_All_cancelled_7 rfl (lv_at hl 1 rfl) ?_
        refine lv_iload_n hx hb d_All_cancelled_8 rfl (lv_at hl 3 rfl) ?_
        obtain ⟨v2, h_v2, hB⟩ := xo_ob hB
        refine xk_irem hx hb d_All_cancelled_9 h_v2 ?_
        refine lv_if_ne (tgt := 23) hx hb d_All_cancelled_10 (by decide) (fun c_104 => ?_) (fun c_104 => ?_)
        · replace hB := xo_if_f c_104 hB
          obtain ⟨v5, e_v5, hB⟩ := xo_nm_e hB
          refine lv_iinc (v := v5) (lv' := [(3, .int v5), (0, .int x0), (1, .int x1), (2, .int x2)]) hx hb d_All_cancelled_23 hl (k := 3) rfl (by rw [e_v5]; rfl) (by decide) rfl (fun ls hl => ?_)
          clear e_v5
          refine lv_goto (tgt := 2) hx hb d_All_cancelled_26 (by decide) ?_
          have q9 := Option.some.inj hB
          subst q9
          exact ih _ _ (xo_elL hL) kx0 kx1 _ _ _ hP hS (lv_sub hl [1, 2, 3, 0] rfl)
        · replace hB := xo_if_t c_104 hB
          refine lv_iload_n hx hb d_All_cancelled_13 rfl (lv_at hl 2 rfl) ?_
          refine lv_iload_n hx hb d_All_cancelled_14 rfl (lv_at hl 3 rfl) ?_
          obtain ⟨v3, h_v3, hB⟩ := xo_ob hB
          refine xk_irem hx hb d_All_cancelled_15 h_v3 ?_
          refine lv_if_ne (tgt := 23) hx hb d_All_cancelled_16 (by decide) (fun c_105 => ?_) (fun c_105 => ?_)
          · replace hB := xo_if_f c_105 hB
            obtain ⟨v4, e_v4, hB⟩ := xo_nm_e hB
            refine lv_iinc (v := v4) (lv' := [(3, .int v4), (0, .int x0), (1, .int x1), (2, .int x2)]) hx hb d_All_cancelled_23 hl (k := 3) rfl (by rw [e_v4]; rfl) (by decide) rfl (fun ls hl => ?_)
            clear e_v4
            refine lv_goto (tgt := 2) hx hb d_All_cancelled_26 (by decide) ?_
            have q9 := Option.some.inj hB
            subst q9
            exact ih _ _ (xo_elL hL) kx0 kx1 _ _ _ hP hS (lv_sub hl [1, 2, 3, 0] rfl)
          · replace hB := xo_if_t c_105 hB
            have q9 := Option.some.inj hB
            subst q9
            replace hL := Option.some.inj (xo_elR hL)
            subst hL
            exact kx0 _ rfl _ _ _ hP hS (lv_sub hl [0, 3] rfl)
  obtain ⟨y2, hL2, hF⟩ := xo_ob hF
  refine lp2 1000000 x2 y2 hL2 ?_ ?_ _ _ _ hP hS (lv_sub hl [1, 2, 3, 0] rfl)
  · intro o1 ey H locs ls hP hS hl
    subst ey
    replace hF := xo_elL hF
    refine lv_iload_n hx hb d_All_cancelled_19 rfl (lv_at hl 0 rfl) ?_
    refine lv_iload_n hx hb d_All_cancelled_20 rfl (lv_at hl 1 rfl) ?_
    obtain ⟨v6, h_v6, hF⟩ := xo_ob hF
    refine xk_idiv hx hb d_All_cancelled_21 h_v6 ?_
    have q9 := Option.some.inj hF
    subst q9
    exact hret 22 _ _ _ d_All_cancelled_22 rfl hP hS
  · intro  ey H locs ls hP hS hl
    subst ey
    replace hF := xo_elR hF
    refine lv_iload_n hx hb d_All_cancelled_29 rfl (lv_at hl 0 rfl) ?_
    have q9 := Option.some.inj hF
    subst q9
    exact hret 30 _ _ _ d_All_cancelled_30 rfl hP hS
set_option maxHeartbeats 4000000 in
set_option maxRecDepth 100000 in
theorem c_All_crossing (l : Launch) (D : va_G) (cI cZ : ClassId) (ad : Nat → Nat) (A : Nat → Prop) (adK adV : Nat → Nat) (hDw : ∀ st : XS, va_D A (xw_C ad cI cZ st)) (x1 : Int32) (x2 : Int32) (x3 : Int32) (st : XS) (r9 : Int32) (st9 : XS) (hF : F_All_crossing x1 x2 x3 st = some (r9, st9)) : K_I l D cI cZ A adK adV (xw_C ad cI cZ) y_All_crossing b_All_crossing 7 (some .int) 2 46 [.ref (ad 0), .int x1, .int x2, .int x3] st r9 st9 := by
  refine xk_startI (by decide) .int rfl (Nat.le_of_ble_eq_true rfl) ?_
  intro p e s m args below meth c Q ls hx hb hml hown hts hK hE hP hS hl hret
  replace hown : s.vm.findClass R_All = some m.cls := hown
  replace hl : lv_has ls 7 [(0, .ref (ad 0)), (1, .int x1), (2, .int x2), (3, .int x3)] := hl
  unfold F_All_crossing at hF
  have mg27 : ∀ (xs : XS), F_All_crossing_m27 xs = some (r9, st9) → ∀ (H : Heap) (locs : List Loc) (ls : Array Slot), va_P D classes (xw_C ad cI cZ xs) H → va_S A s.heap H locs → lv_has ls 7 [(0, .ref (ad 0))] → W p l e (xk_rm 2 46) s m args below meth c H locs 0 0 Q (F0 m 27 ls []) := by
    intro xs hF H locs ls hP hS hl
    unfold F_All_crossing_m27 at hF
    refine lv_aload_n hx hb d_All_crossing_27 rfl (lv_at hl 0 rfl) ?_
    refine lv_iconst (v := (-1 : Int32)) hx hb d_All_crossing_28 (by decide) ?_
    obtain ⟨v1, t2, h_v1, hF⟩ := xo_ob2 hF
    refine xk_goI (xk_runV (As := [.int (-1 : Int32)]) (rest := []) hx hb hml hown hts hK hE (fun _ h => h) hP hS ok_All_refuseFar in_All_refuseFar u_434 (c_All_refuseFar l D cI cZ ad A adK adV hDw (-1 : Int32) xs v1 t2 h_v1) (va_recv hK hP (ci := 3) (q0 := 0) rfl xw_C_at_0) (by decide) rfl hl.1 rfl (Nat.le_of_ble_eq_true rfl) d_All_crossing_29 ⟨Nat.le_refl _, Nat.le_refl _⟩) (fun _ h => h) hS (fun H locs hP hS => ?_)
    obtain ⟨q8, q9⟩ := xo_s2 hF
    subst q8
    subst q9
    exact hret 32 _ _ _ d_All_crossing_32 rfl hP hS
  refine lv_aload_n hx hb d_All_crossing_0 rfl (lv_at hl 0 rfl) ?_
  refine xk_get (C := R_All) (T := F_All) (N := 9) hx hb hts i_All hown hK hP 0 xw_C_at_0 rfl 0 (by decide) u_234 rfl d_All_crossing_1 ?_
  refine lv_iload_n hx hb d_All_crossing_4 rfl (lv_at hl 1 rfl) ?_
  obtain ⟨v3, h_v3, hF⟩ := xo_ob hF
  refine xk_goI (xk_runV (As := [.int x1]) (rest := []) hx hb hml hown hts hK hE (fun _ h => h) hP hS ok_Tow_hasStreet in_Tow_hasStreet u_430 (c_Tow_hasStreet l D cI cZ ad A adK adV hDw x1 st v3 h_v3) (va_recv hK hP (ci := 2) (q0 := 1) rfl xw_C_at_1) (by decide) rfl hl.1 rfl (Nat.le_of_ble_eq_true rfl) d_All_crossing_5 ⟨Nat.le_refl _, Nat.le_refl _⟩) (fun _ h => h) hS (fun H locs hP hS => ?_)
  refine lv_if_eq (tgt := 27) hx hb d_All_crossing_8 (by decide) (fun c_106 => ?_) (fun c_106 => ?_)
  · replace hF := xo_if_t c_106 hF
    exact mg27 _ hF _ _ _ hP hS (lv_sub hl [0] rfl)
  · replace hF := xo_if_f c_106 hF
    refine lv_aload_n hx hb d_All_crossing_11 rfl (lv_at hl 0 rfl) ?_
    refine xk_get (C := R_All) (T := F_All) (N := 9) hx hb hts i_All hown hK hP 0 xw_C_at_0 rfl 0 (by decide) u_234 rfl d_All_crossing_12 ?_
    refine lv_iload_n hx hb d_All_crossing_15 rfl (lv_at hl 2 rfl) ?_
    obtain ⟨v4, h_v4, hF⟩ := xo_ob hF
    refine xk_goI (xk_runV (As := [.int x2]) (rest := []) hx hb hml hown hts hK hE (fun _ h => h) hP hS ok_Tow_hasStreet in_Tow_hasStreet u_430 (c_Tow_hasStreet l D cI cZ ad A adK adV hDw x2 st v4 h_v4) (va_recv hK hP (ci := 2) (q0 := 1) rfl xw_C_at_1) (by decide) rfl hl.1 rfl (Nat.le_of_ble_eq_true rfl) d_All_crossing_16 ⟨Nat.le_refl _, Nat.le_refl _⟩) (fun _ h => h) hS (fun H locs hP hS => ?_)
    refine lv_if_eq (tgt := 27) hx hb d_All_crossing_19 (by decide) (fun c_107 => ?_) (fun c_107 => ?_)
    · replace hF := xo_if_t c_107 hF
      exact mg27 _ hF _ _ _ hP hS (lv_sub hl [0] rfl)
    · replace hF := xo_if_f c_107 hF
      refine lv_iload_n hx hb d_All_crossing_22 rfl (lv_at hl 1 rfl) ?_
      refine lv_iload_n hx hb d_All_crossing_23 rfl (lv_at hl 2 rfl) ?_
      refine lv_icmp_ne (tgt := 33) hx hb d_All_crossing_24 (by decide) (fun c_108 => ?_) (fun c_108 => ?_)
      · replace hF := xo_if_f c_108 hF
        refine lv_aload_n hx hb d_All_crossing_33 rfl (lv_at hl 0 rfl) ?_
        refine xk_get (C := R_All) (T := F_All) (N := 9) hx hb hts i_All hown hK hP 0 xw_C_at_0 rfl 0 (by decide) u_234 rfl d_All_crossing_34 ?_
        refine lv_iload_n hx hb d_All_crossing_37 rfl (lv_at hl 1 rfl) ?_
        refine lv_iload_n hx hb d_All_crossing_38 rfl (lv_at hl 2 rfl) ?_
        obtain ⟨v5, h_v5, hF⟩ := xo_ob hF
        refine xk_goI (xk_runV (As := [.int x1, .int x2]) (rest := []) hx hb hml hown hts hK hE (fun _ h => h) hP hS ok_Tow_crossingBelow in_Tow_crossingBelow u_469 (c_Tow_crossingBelow l D cI cZ ad A adK adV hDw x1 x2 st v5 h_v5) (va_recv hK hP (ci := 2) (q0 := 1) rfl xw_C_at_1) (by decide) rfl hl.1 rfl (Nat.le_of_ble_eq_true rfl) d_All_crossing_39 ⟨Nat.le_refl _, Nat.le_refl _⟩) (fun _ h => h) hS (fun H locs hP hS => ?_)
        refine lv_istore (lv' := [(4, .int v5), (0, .ref (ad 0)), (1, .int x1), (2, .int x2), (3, .int x3)]) hx hb d_All_crossing_42 hl (by decide) rfl (fun ls hl => ?_)
        refine lv_aload_n hx hb d_All_crossing_44 rfl (lv_at hl 1 rfl) ?_
        refine xk_get (C := R_All) (T := F_All) (N := 9) hx hb hts i_All hown hK hP 0 xw_C_at_0 rfl 0 (by decide) u_234 rfl d_All_crossing_45 ?_
        refine lv_iload_n hx hb d_All_crossing_48 rfl (lv_at hl 2 rfl) ?_
        refine lv_iload_n hx hb d_All_crossing_49 rfl (lv_at hl 3 rfl) ?_
        obtain ⟨v6, h_v6, hF⟩ := xo_ob hF
        refine xk_goI (xk_runV (As := [.int x1, .int x2]) (rest := []) hx hb hml hown hts hK hE (fun _ h => h) hP hS ok_Tow_crossingX in_Tow_crossingX u_470 (c_Tow_crossingX l D cI cZ ad A adK adV hDw x1 x2 st v6 h_v6) (va_recv hK hP (ci := 2) (q0 := 1) rfl xw_C_at_1) (by decide) rfl hl.1 rfl (Nat.le_of_ble_eq_true rfl) d_All_crossing_50 ⟨Nat.le_refl _, Nat.le_refl _⟩) (fun _ h => h) hS (fun H locs hP hS => ?_)
        refine lv_istore (lv' := [(5, .int v6), (4, .int v5), (0, .ref (ad 0)), (1, .int x1), (2, .int x2), (3, .int x3)]) hx hb d_All_crossing_53 hl (by decide) rfl (fun ls hl => ?_)
        refine lv_aload_n hx hb d_All_crossing_55 rfl (lv_at hl 2 rfl) ?_
        refine xk_get (C := R_All) (T := F_All) (N := 9) hx hb hts i_All hown hK hP 0 xw_C_at_0 rfl 0 (by decide) u_234 rfl d_All_crossing_56 ?_
        refine lv_iload_n hx hb d_All_crossing_59 rfl (lv_at hl 3 rfl) ?_
        refine lv_iload_n hx hb d_All_crossing_60 rfl (lv_at hl 4 rfl) ?_
        obtain ⟨v7, h_v7, hF⟩ := xo_ob hF
        refine xk_goI (xk_runV (As := [.int x1, .int x2]) (rest := []) hx hb hml hown hts hK hE (fun _ h => h) hP hS ok_Tow_crossingY in_Tow_crossingY u_471 (c_Tow_crossingY l D cI cZ ad A adK adV hDw x1 x2 st v7 h_v7) (va_recv hK hP (ci := 2) (q0 := 1) rfl xw_C_at_1) (by decide) rfl hl.1 rfl (Nat.le_of_ble_eq_true rfl) d_All_crossing_61 ⟨Nat.le_refl _, Nat.le_refl _⟩) (fun _ h => h) hS (fun H locs hP hS => ?_)
        refine lv_istore (lv' := [(6, .int v7), (5, .int v6), (4, .int v5), (0, .ref (ad 0)), (1, .int x1), (2, .int x2), (3, .int x3)]) hx hb d_All_crossing_64 hl (by decide) rfl (fun ls hl => ?_)
        refine lv_iload_n hx hb d_All_crossing_66 rfl (lv_at hl 6 rfl) ?_
        by_cases c_109 : x3 = (0 : Int32)
        · replace hF := xo_if_t c_109 hF
          refine lv_tableIn (off := 29) (tgt := 96) hx hb d_All_crossing_67 (by rw [c_109]; decide) (by rw [c_109]; decide) (by rw [c_109]; decide) (by decide) ?_
          refine lv_iload hx hb d_All_crossing_96 (lv_at hl 1 rfl) ?_
          refine lv_iload hx hb d_All_crossing_98 (lv_at hl 1 rfl) ?_
          refine lv_iload hx hb d_All_crossing_100 (lv_at hl 2 rfl) ?_
          obtain ⟨v8, h_v8, hF⟩ := xo_ob hF
          refine xk_goI (xk_runS (As := [.int v6, .int v6, .int v5]) (rest := []) hx hb hml hown hts hK hE (fun _ h => h) hP hS ok_All_cancelled st_All_cancelled u_472 (c_All_cancelled l D cI cZ ad A adK adV hDw v6 v6 v5 st v8 h_v8) (by decide) rfl hl.1 rfl (Nat.le_of_ble_eq_true rfl) d_All_crossing_102 ⟨Nat.le_refl _, Nat.le_refl _⟩) (fun _ h => h) hS (fun H locs hP hS => ?_)
          obtain ⟨q8, q9⟩ := xo_s2 hF
          subst q8
          subst q9
          exact hret 105 _ _ _ d_All_crossing_105 rfl hP hS
        · replace hF := xo_if_f c_109 hF
          by_cases c_110 : x3 = (1 : Int32)
          · replace hF := xo_if_t c_110 hF
            refine lv_tableIn (off := 39) (tgt := 106) hx hb d_All_crossing_67 (by rw [c_110]; decide) (by rw [c_110]; decide) (by rw [c_110]; decide) (by decide) ?_
            refine lv_iload hx hb d_All_crossing_106 (lv_at hl 2 rfl) ?_
            refine lv_iload hx hb d_All_crossing_108 (lv_at hl 1 rfl) ?_
            refine lv_iload hx hb d_All_crossing_110 (lv_at hl 2 rfl) ?_
            obtain ⟨v9, h_v9, hF⟩ := xo_ob hF
            refine xk_goI (xk_runS (As := [.int v5, .int v6, .int v5]) (rest := []) hx hb hml hown hts hK hE (fun _ h => h) hP hS ok_All_cancelled st_All_cancelled u_472 (c_All_cancelled l D cI cZ ad A adK adV hDw v5 v6 v5 st v9 h_v9) (by decide) rfl hl.1 rfl (Nat.le_of_ble_eq_true rfl) d_All_crossing_112 ⟨Nat.le_refl _, Nat.le_refl _⟩) (fun _ h => h) hS (fun H locs hP hS => ?_)
            obtain ⟨q8, q9⟩ := xo_s2 hF
            subst q8
            subst q9
            exact hret 115 _ _ _ d_All_crossing_115 rfl hP hS
          · replace hF := xo_if_f c_110 hF
            by_cases c_111 : x3 = (2 : Int32)
            · replace hF := xo_if_t c_111 hF
              refine lv_tableIn (off := 49) (tgt := 116) hx hb d_All_crossing_67 (by rw [c_111]; decide) (by rw [c_111]; decide) (by rw [c_111]; decide) (by decide) ?_
              refine lv_iload hx hb d_All_crossing_116 (lv_at hl 0 rfl) ?_
              refine lv_iload hx hb d_All_crossing_118 (lv_at hl 0 rfl) ?_
              refine lv_iload hx hb d_All_crossing_120 (lv_at hl 2 rfl) ?_
              obtain ⟨v10, h_v10, hF⟩ := xo_ob hF
              refine xk_goI (xk_runS (As := [.int v7, .int v7, .int v5]) (rest := []) hx hb hml hown hts hK hE (fun _ h => h) hP hS ok_All_cancelled st_All_cancelled u_472 (c_All_cancelled l D cI cZ ad A adK adV hDw v7 v7 v5 st v10 h_v10) (by decide) rfl hl.1 rfl (Nat.le_of_ble_eq_true rfl) d_All_crossing_122 ⟨Nat.le_refl _, Nat.le_refl _⟩) (fun _ h => h) hS (fun H locs hP hS => ?_)
              obtain ⟨q8, q9⟩ := xo_s2 hF
              subst q8
              subst q9
              exact hret 125 _ _ _ d_All_crossing_125 rfl hP hS
            · replace hF := xo_if_f c_111 hF
              by_cases c_112 : x3 = (3 : Int32)
              · replace hF := xo_if_t c_112 hF
                refine lv_tableIn (off := 59) (tgt := 126) hx hb d_All_crossing_67 (by rw [c_112]; decide) (by rw [c_112]; decide) (by rw [c_112]; decide) (by decide) ?_
                refine lv_iload hx hb d_All_crossing_126 (lv_at hl 2 rfl) ?_
                refine lv_iload hx hb d_All_crossing_128 (lv_at hl 0 rfl) ?_
                refine lv_iload hx hb d_All_crossing_130 (lv_at hl 2 rfl) ?_
                obtain ⟨v11, h_v11, hF⟩ := xo_ob hF
                refine xk_goI (xk_runS (As := [.int v5, .int v7, .int v5]) (rest := []) hx hb hml hown hts hK hE (fun _ h => h) hP hS ok_All_cancelled st_All_cancelled u_472 (c_All_cancelled l D cI cZ ad A adK adV hDw v5 v7 v5 st v11 h_v11) (by decide) rfl hl.1 rfl (Nat.le_of_ble_eq_true rfl) d_All_crossing_132 ⟨Nat.le_refl _, Nat.le_refl _⟩) (fun _ h => h) hS (fun H locs hP hS => ?_)
                obtain ⟨q8, q9⟩ := xo_s2 hF
                subst q8
                subst q9
                exact hret 135 _ _ _ d_All_crossing_135 rfl hP hS
              · replace hF := xo_if_f c_112 hF
                refine lv_tableOut (tgt := 136) hx hb d_All_crossing_67 (xk_out_0_3 c_109 c_110 c_111 c_112) (by decide) ?_
                refine lv_aload_n hx hb d_All_crossing_136 rfl (lv_at hl 3 rfl) ?_
                refine lv_bipush (v := (-2 : Int32)) hx hb d_All_crossing_137 (by decide) ?_
                obtain ⟨v12, t13, h_v12, hF⟩ := xo_ob2 hF
                refine xk_goI (xk_runV (As := [.int (-2 : Int32)]) (rest := []) hx hb hml hown hts hK hE (fun _ h => h) hP hS ok_All_refuseFar in_All_refuseFar u_434 (c_All_refuseFar l D cI cZ ad A adK adV hDw (-2 : Int32) st v12 t13 h_v12) (va_recv hK hP (ci := 3) (q0 := 0) rfl xw_C_at_0) (by decide) rfl hl.1 rfl (Nat.le_of_ble_eq_true rfl) d_All_crossing_139 ⟨Nat.le_refl _, Nat.le_refl _⟩) (fun _ h => h) hS (fun H locs hP hS => ?_)
                obtain ⟨q8, q9⟩ := xo_s2 hF
                subst q8
                subst q9
                exact hret 142 _ _ _ d_All_crossing_142 rfl hP hS
      · replace hF := xo_if_t c_108 hF
        exact mg27 _ hF _ _ _ hP hS (lv_sub hl [0] rfl)
set_option maxHeartbeats 4000000 in
set_option maxRecDepth 100000 in
theorem c_All_quarters (l : Launch) (D : va_G) (cI cZ : ClassId) (ad : Nat → Nat) (A : Nat → Prop) (adK adV : Nat → Nat) (hDw : ∀ st : XS, va_D A (xw_C ad cI cZ st)) (st : XS) (r9 : Int32) (hF : F_All_quarters  st = some r9) : K_I l D cI cZ A adK adV (xw_C ad cI cZ) y_All_quarters b_All_quarters 1 (some .int) 1 21 [.ref (ad 0)] st r9 st := by
  refine xk_startI (by decide) .int rfl (Nat.le_of_ble_eq_true rfl) ?_
  intro p e s m args below meth c Q ls hx hb hml hown hts hK hE hP hS hl hret
  replace hown : s.vm.findClass R_All = some m.cls := hown
  replace hl : lv_has ls 1 [(0, .ref (ad 0))] := hl
  unfold F_All_quarters at hF
  refine lv_aload_n hx hb d_All_quarters_0 rfl (lv_at hl 0 rfl) ?_
  refine xk_get (C := R_All) (T := F_All) (N := 9) hx hb hts i_All hown hK hP 0 xw_C_at_0 rfl 4 (by decide) u_238 rfl d_All_quarters_1 ?_
  refine xk_get (C := R_Pla) (T := F_Pla) (N := 9) hx hb hts i_Pla hown hK hP 22 xw_C_at_22 rfl 1 (by decide) u_127 rfl d_All_quarters_4 ?_
  obtain ⟨v1, h_v1, hF⟩ := xo_ob hF
  refine xk_goI (xk_runS (As := [.long (st.2 0)]) (rest := []) hx hb hml hown hts hK hE (fun _ h => h) hP hS ok_Lng_bitCount st_Lng_bitCount u_479 (c_Lng_bitCount l D cI cZ (xw_C ad cI cZ) A adK adV (st.2 0) st v1 h_v1) (by decide) rfl hl.1 rfl (Nat.le_of_ble_eq_true rfl) d_All_quarters_7 ⟨Nat.le_refl _, Nat.le_refl _⟩) (fun _ h => h) hS (fun H locs hP hS => ?_)
  have q9 := Option.some.inj hF
  subst q9
  exact hret 10 _ _ _ d_All_quarters_10 rfl hP hS
set_option maxHeartbeats 4000000 in
set_option maxRecDepth 100000 in
theorem c_All_open (l : Launch) (D : va_G) (cI cZ : ClassId) (ad : Nat → Nat) (A : Nat → Prop) (adK adV : Nat → Nat) (hDw : ∀ st : XS, va_D A (xw_C ad cI cZ st)) (st : XS) (r9 : Int32) (hF : F_All_open  st = some r9) : K_I l D cI cZ A adK adV (xw_C ad cI cZ) y_All_open b_All_open 1 (some .int) 1 21 [.ref (ad 0)] st r9 st := by
  refine xk_startI (by decide) .int rfl (Nat.le_of_ble_eq_true rfl) ?_
  intro p e s m args below meth c Q ls hx hb hml hown hts hK hE hP hS hl hret
  replace hown : s.vm.findClass R_All = some m.cls := hown
  replace hl : lv_has ls 1 [(0, .ref (ad 0))] := hl
  unfold F_All_open at hF
  refine lv_aload_n hx hb d_All_open_0 rfl (lv_at hl 0 rfl) ?_
  refine xk_get (C := R_All) (T := F_All) (N := 9) hx hb hts i_All hown hK hP 0 xw_C_at_0 rfl 4 (by decide) u_238 rfl d_All_open_1 ?_
  refine xk_get (C := R_Pla) (T := F_Pla) (N := 9) hx hb hts i_Pla hown hK hP 22 xw_C_at_22 rfl 2 (by decide) u_128 rfl d_All_open_4 ?_
  obtain ⟨v1, h_v1, hF⟩ := xo_ob hF
  refine xk_goI (xk_runS (As := [.long (st.2 1)]) (rest := []) hx hb hml hown hts hK hE (fun _ h => h) hP hS ok_Lng_bitCount st_Lng_bitCount u_479 (c_Lng_bitCount l D cI cZ (xw_C ad cI cZ) A adK adV (st.2 1) st v1 h_v1) (by decide) rfl hl.1 rfl (Nat.le_of_ble_eq_true rfl) d_All_open_7 ⟨Nat.le_refl _, Nat.le_refl _⟩) (fun _ h => h) hS (fun H locs hP hS => ?_)
  have q9 := Option.some.inj hF
  subst q9
  exact hret 10 _ _ _ d_All_open_10 rfl hP hS
set_option maxHeartbeats 4000000 in
set_option maxRecDepth 100000 in
theorem c_All_with (l : Launch) (D : va_G) (cI cZ : ClassId) (ad : Nat → Nat) (A : Nat → Prop) (adK adV : Nat → Nat) (hDw : ∀ st : XS, va_D A (xw_C ad cI cZ st)) (x1 : Int32) (st : XS) (r9 : Int32) (st9 : XS) (hF : F_All_with x1 st = some (r9, st9)) : K_I l D cI cZ A adK adV (xw_C ad cI cZ) y_All_with b_All_with 4 (some .int) 2 43 [.ref (ad 0), .int x1] st r9 st9 := by
  refine xk_startI (by decide) .int rfl (Nat.le_of_ble_eq_true rfl) ?_
  intro p e s m args below meth c Q ls hx hb hml hown hts hK hE hP hS hl hret
  replace hown : s.vm.findClass R_All = some m.cls := hown
  replace hl : lv_has ls 4 [(0, .ref (ad 0)), (1, .int x1)] := hl
  unfold F_All_with at hF
  refine lv_iload_n hx hb d_All_with_0 rfl (lv_at hl 1 rfl) ?_
  refine lv_if_ge (tgt := 11) hx hb d_All_with_1 (by decide) (fun c_118 => ?_) (fun c_118 => ?_)
  · replace hF := xo_if_t c_118 hF
    refine lv_iload_n hx hb d_All_with_11 rfl (lv_at hl 1 rfl) ?_
    refine lv_bipush (v := (12 : Int32)) hx hb d_All_with_12 (by decide) ?_
    refine lv_icmp_le (tgt := 24) hx hb d_All_with_14 (by decide) (fun c_119 => ?_) (fun c_119 => ?_)
    · replace hF := xo_if_t c_119 hF
      refine lv_iconst (v := (0 : Int32)) hx hb d_All_with_24 (by decide) ?_
      refine lv_istore_n (lv' := [(2, .int (0 : Int32)), (0, .ref (ad 0)), (1, .int x1)]) hx hb d_All_with_25 rfl hl (by decide) rfl (fun ls hl => ?_)
      refine lv_iconst (v := (0 : Int32)) hx hb d_All_with_26 (by decide) ?_
      refine lv_istore_n (lv' := [(3, .int (0 : Int32)), (2, .int (0 : Int32)), (0, .ref (ad 0)), (1, .int x1)]) hx hb d_All_with_27 rfl hl (by decide) rfl (fun ls hl => ?_)
      have lp28 : ∀ (n : Nat) (w28_2 : Int32) (w28_3 : Int32) (y : Int32), xo_lp (fun q : (Int32 × Int32) => F_All_with_b28 x1 st q.1 q.2) n (w28_2, w28_3) = some y → (∀ (e2 : Int32), e2 = y → ∀ (H : Heap) (locs : List Loc) (ls : Array Slot), va_P D classes (xw_C ad cI cZ st) H → va_S A s.heap H locs → lv_has ls 4 [(2, .int e2)] → W p l e (xk_rm 2 43) s m args below meth c H locs 0 0 Q (F0 m 66 ls [])) → ∀ (H : Heap) (locs : List Loc) (ls : Array Slot), va_P D classes (xw_C ad cI cZ st) H → va_S A s.heap H locs → lv_has ls 4 [(0, .ref (ad 0)), (1, .int x1), (2, .int w28_2), (3, .int w28_3)] → W p l e (xk_rm 2 43) s m args below meth c H locs 0 0 Q (F0 m 28 ls []) := by
        intro n
        induction n with
        | zero =>
          intro w28_2 w28_3 y hL
          exact nomatch (show (none : Option _) = some y from hL)
        | succ n ih =>
          intro w28_2 w28_3 y hL kx0 H locs ls hP hS hl
          obtain ⟨z9, hB, hL⟩ := xo_lp_s hL
          replace hB : F_All_with_b28 x1 st w28_2 w28_3 = some z9 := hB
          unfold F_All_with_b28 at hB
          refine lv_iload_n hx hb d_All_with_28 rfl (lv_at hl 3 rfl) ?_
          refine lv_bipush (v := (64 : Int32)) hx hb d_All_with_29 (by decide) ?_
          refine lv_icmp_ge (tgt := 66) hx hb d_All_with_31 (by decide) (fun c_120 => ?_) (fun c_120 => ?_)
          · replace hB := xo_if_t c_120 hB
            have q9 := Option.some.inj hB
            subst q9
            replace hL := Option.some.inj (xo_elR hL)
            subst hL
            exact kx0 _ rfl _ _ _ hP hS (lv_sub hl [2] rfl)
          · replace hB := xo_if_f c_120 hB
            refine lv_aload_n hx hb d_All_with_34 rfl (lv_at hl 0 rfl) ?_
            refine xk_get (C := R_All) (T := F_All) (N := 9) hx hb hts i_All hown hK hP 0 xw_C_at_0 rfl 4 (by decide) u_238 rfl d_All_with_35 ?_
            refine lv_iload_n hx hb d_All_with_38 rfl (lv_at hl 3 rfl) ?_
            obtain ⟨v2, h_v2, hB⟩ := xo_ob hB
            refine xk_goI (xk_runV (As := [.int w28_3]) (rest := []) hx hb hml hown hts hK hE (fun _ h => h) hP hS ok_Pla_hasQuarter in_Pla_hasQuarter u_493 (c_Pla_hasQuarter l D cI cZ ad A adK adV hDw w28_3 st v2 h_v2) (va_recv hK hP (ci := 1) (q0 := 22) rfl xw_C_at_22) (by decide) rfl hl.1 rfl (Nat.le_of_ble_eq_true rfl) d_All_with_39 ⟨Nat.le_refl _, Nat.le_refl _⟩) (fun _ h => h) hS (fun H locs hP hS => ?_)
            refine lv_if_eq (tgt := 60) hx hb d_All_with_42 (by decide) (fun c_121 => ?_) (fun c_121 => ?_)
            · replace hB := xo_if_t c_121 hB
              obtain ⟨v3, e_v3, hB⟩ := xo_nm_e hB
              refine lv_iinc (v := v3) (lv' := [(3, .int v3), (0, .ref (ad 0)), (1, .int x1), (2, .int w28_2)]) hx hb d_All_with_60 hl (k := 3) rfl (by rw [e_v3]; rfl) (by decide) rfl (fun ls hl => ?_)
              clear e_v3
              refine lv_goto (tgt := 28) hx hb d_All_with_63 (by decide) ?_
              have q9 := Option.some.inj hB
              subst q9
              exact ih _ _ _ (xo_elL hL) kx0 _ _ _ hP hS (lv_sub hl [1, 2, 3, 0] rfl)
            · replace hB := xo_if_f c_121 hB
              refine lv_aload_n hx hb d_All_with_45 rfl (lv_at hl 0 rfl) ?_
              refine xk_get (C := R_All) (T := F_All) (N := 9) hx hb hts i_All hown hK hP 0 xw_C_at_0 rfl 4 (by decide) u_238 rfl d_All_with_46 ?_
              refine lv_iload_n hx hb d_All_with_49 rfl (lv_at hl 3 rfl) ?_
              obtain ⟨v4, h_v4, hB⟩ := xo_ob hB
              refine xk_goI (xk_runV (As := [.int w28_3]) (rest := []) hx hb hml hown hts hK hE (fun _ h => h) hP hS ok_Pla_cornersOf in_Pla_cornersOf u_500 (c_Pla_cornersOf l D cI cZ ad A adK adV hDw w28_3 st v4 h_v4) (va_recv hK hP (ci := 1) (q0 := 22) rfl xw_C_at_22) (by decide) rfl hl.1 rfl (Nat.le_of_ble_eq_true rfl) d_All_with_50 ⟨Nat.le_refl _, Nat.le_refl _⟩) (fun _ h => h) hS (fun H locs hP hS => ?_)
              refine lv_iload_n hx hb d_All_with_53 rfl (lv_at hl 1 rfl) ?_
              refine lv_icmp_ne (tgt := 60) hx hb d_All_with_54 (by decide) (fun c_122 => ?_) (fun c_122 => ?_)
              · replace hB := xo_if_f c_122 hB
                obtain ⟨v7, e_v7, hB⟩ := xo_nm_e hB
                refine lv_iinc (v := v7) (lv' := [(3, .int v7), (0, .ref (ad 0)), (1, .int x1), (2, .int w28_2)]) hx hb d_All_with_60 hl (k := 3) rfl (by rw [e_v7]; rfl) (by decide) rfl (fun ls hl => ?_)
                clear e_v7
                refine lv_goto (tgt := 28) hx hb d_All_with_63 (by decide) ?_
                have q9 := Option.some.inj hB
                subst q9
                exact ih _ _ _ (xo_elL hL) kx0 _ _ _ hP hS (lv_sub hl [1, 2, 3, 0] rfl)
              · replace hB := xo_if_t c_122 hB
                obtain ⟨v5, e_v5, hB⟩ := xo_nm_e hB
                refine lv_iinc (v := v5) (lv' := [(2, .int v5), (0, .ref (ad 0)), (1, .int x1), (3, .int w28_3)]) hx hb d_All_with_57 hl (k := 2) rfl (by rw [e_v5]; rfl) (by decide) rfl (fun ls hl => ?_)
                clear e_v5
                obtain ⟨v6, e_v6, hB⟩ := xo_nm_e hB
                refine lv_iinc (v := v6) (lv' := [(3, .int v6), (2, .int v5), (0, .ref (ad 0)), (1, .int x1)]) hx hb d_All_with_60 hl (k := 3) rfl (by rw [e_v6]; rfl) (by decide) rfl (fun ls hl => ?_)
                clear e_v6
                refine lv_goto (tgt := 28) hx hb d_All_with_63 (by decide) ?_
                have q9 := Option.some.inj hB
                subst q9
                exact ih _ _ _ (xo_elL hL) kx0 _ _ _ hP hS (lv_sub hl [2, 3, 1, 0] rfl)
      obtain ⟨y28, hL28, hF⟩ := xo_ob hF
      refine lp28 1000000 (0 : Int32) (0 : Int32) y28 hL28 ?_ _ _ _ hP hS (lv_sub hl [2, 3, 1, 0] rfl)
      intro o1 ey H locs ls hP hS hl
      subst ey
      refine lv_iload_n hx hb d_All_with_66 rfl (lv_at hl 0 rfl) ?_
      obtain ⟨q8, q9⟩ := xo_s2 hF
      subst q8
      subst q9
      exact hret 67 _ _ _ d_All_with_67 rfl hP hS
    · replace hF := xo_if_f c_119 hF
      refine lv_aload_n hx hb d_All_with_17 rfl (lv_at hl 0 rfl) ?_
      refine lv_bipush (v := (-6 : Int32)) hx hb d_All_with_18 (by decide) ?_
      obtain ⟨v8, t9, h_v8, hF⟩ := xo_ob2 hF
      refine xk_goI (xk_runV (As := [.int (-6 : Int32)]) (rest := []) hx hb hml hown hts hK hE (fun _ h => h) hP hS ok_All_refuse in_All_refuse u_266 (c_All_refuse l D cI cZ ad A adK adV hDw (-6 : Int32) st v8 t9 h_v8) (va_recv hK hP (ci := 3) (q0 := 0) rfl xw_C_at_0) (by decide) rfl hl.1 rfl (Nat.le_of_ble_eq_true rfl) d_All_with_20 ⟨Nat.le_refl _, Nat.le_refl _⟩) (fun _ h => h) hS (fun H locs hP hS => ?_)
      obtain ⟨q8, q9⟩ := xo_s2 hF
      subst q8
      subst q9
      exact hret 23 _ _ _ d_All_with_23 rfl hP hS
  · replace hF := xo_if_f c_118 hF
    refine lv_aload_n hx hb d_All_with_4 rfl (lv_at hl 0 rfl) ?_
    refine lv_bipush (v := (-4 : Int32)) hx hb d_All_with_5 (by decide) ?_
    obtain ⟨v10, t11, h_v10, hF⟩ := xo_ob2 hF
    refine xk_goI (xk_runV (As := [.int (-4 : Int32)]) (rest := []) hx hb hml hown hts hK hE (fun _ h => h) hP hS ok_All_refuse in_All_refuse u_266 (c_All_refuse l D cI cZ ad A adK adV hDw (-4 : Int32) st v10 t11 h_v10) (va_recv hK hP (ci := 3) (q0 := 0) rfl xw_C_at_0) (by decide) rfl hl.1 rfl (Nat.le_of_ble_eq_true rfl) d_All_with_7 ⟨Nat.le_refl _, Nat.le_refl _⟩) (fun _ h => h) hS (fun H locs hP hS => ?_)
    obtain ⟨q8, q9⟩ := xo_s2 hF
    subst q8
    subst q9
    exact hret 10 _ _ _ d_All_with_10 rfl hP hS
set_option maxHeartbeats 4000000 in
set_option maxRecDepth 100000 in
theorem c_All_corners (l : Launch) (D : va_G) (cI cZ : ClassId) (ad : Nat → Nat) (A : Nat → Prop) (adK adV : Nat → Nat) (hDw : ∀ st : XS, va_D A (xw_C ad cI cZ st)) (x1 : Int32) (st : XS) (r9 : Int32) (st9 : XS) (hF : F_All_corners x1 st = some (r9, st9)) : K_I l D cI cZ A adK adV (xw_C ad cI cZ) y_All_corners b_All_corners 2 (some .int) 2 43 [.ref (ad 0), .int x1] st r9 st9 := by
  refine xk_startI (by decide) .int rfl (Nat.le_of_ble_eq_true rfl) ?_
  intro p e s m args below meth c Q ls hx hb hml hown hts hK hE hP hS hl hret
  replace hown : s.vm.findClass R_All = some m.cls := hown
  replace hl : lv_has ls 2 [(0, .ref (ad 0)), (1, .int x1)] := hl
  unfold F_All_corners at hF
  refine lv_aload_n hx hb d_All_corners_0 rfl (lv_at hl 0 rfl) ?_
  refine xk_get (C := R_All) (T := F_All) (N := 9) hx hb hts i_All hown hK hP 0 xw_C_at_0 rfl 4 (by decide) u_238 rfl d_All_corners_1 ?_
  refine lv_iload_n hx hb d_All_corners_4 rfl (lv_at hl 1 rfl) ?_
  obtain ⟨v1, h_v1, hF⟩ := xo_ob hF
  refine xk_goI (xk_runV (As := [.int x1]) (rest := []) hx hb hml hown hts hK hE (fun _ h => h) hP hS ok_Pla_hasQuarter in_Pla_hasQuarter u_493 (c_Pla_hasQuarter l D cI cZ ad A adK adV hDw x1 st v1 h_v1) (va_recv hK hP (ci := 1) (q0 := 22) rfl xw_C_at_22) (by decide) rfl hl.1 rfl (Nat.le_of_ble_eq_true rfl) d_All_corners_5 ⟨Nat.le_refl _, Nat.le_refl _⟩) (fun _ h => h) hS (fun H locs hP hS => ?_)
  refine lv_if_eq (tgt := 22) hx hb d_All_corners_8 (by decide) (fun c_123 => ?_) (fun c_123 => ?_)
  · replace hF := xo_if_t c_123 hF
    refine lv_aload_n hx hb d_All_corners_22 rfl (lv_at hl 0 rfl) ?_
    refine lv_iconst (v := (-1 : Int32)) hx hb d_All_corners_23 (by decide) ?_
    obtain ⟨v2, t3, h_v2, hF⟩ := xo_ob2 hF
    refine xk_goI (xk_runV (As := [.int (-1 : Int32)]) (rest := []) hx hb hml hown hts hK hE (fun _ h => h) hP hS ok_All_refuse in_All_refuse u_266 (c_All_refuse l D cI cZ ad A adK adV hDw (-1 : Int32) st v2 t3 h_v2) (va_recv hK hP (ci := 3) (q0 := 0) rfl xw_C_at_0) (by decide) rfl hl.1 rfl (Nat.le_of_ble_eq_true rfl) d_All_corners_24 ⟨Nat.le_refl _, Nat.le_refl _⟩) (fun _ h => h) hS (fun H locs hP hS => ?_)
    obtain ⟨q8, q9⟩ := xo_s2 hF
    subst q8
    subst q9
    exact hret 27 _ _ _ d_All_corners_27 rfl hP hS
  · replace hF := xo_if_f c_123 hF
    refine lv_aload_n hx hb d_All_corners_11 rfl (lv_at hl 0 rfl) ?_
    refine xk_get (C := R_All) (T := F_All) (N := 9) hx hb hts i_All hown hK hP 0 xw_C_at_0 rfl 4 (by decide) u_238 rfl d_All_corners_12 ?_
    refine lv_iload_n hx hb d_All_corners_15 rfl (lv_at hl 1 rfl) ?_
    obtain ⟨v4, h_v4, hF⟩ := xo_ob hF
    refine xk_goI (xk_runV (As := [.int x1]) (rest := []) hx hb hml hown hts hK hE (fun _ h => h) hP hS ok_Pla_cornersOf in_Pla_cornersOf u_500 (c_Pla_cornersOf l D cI cZ ad A adK adV hDw x1 st v4 h_v4) (va_recv hK hP (ci := 1) (q0 := 22) rfl xw_C_at_22) (by decide) rfl hl.1 rfl (Nat.le_of_ble_eq_true rfl) d_All_corners_16 ⟨Nat.le_refl _, Nat.le_refl _⟩) (fun _ h => h) hS (fun H locs hP hS => ?_)
    refine lv_goto (tgt := 27) hx hb d_All_corners_19 (by decide) ?_
    obtain ⟨q8, q9⟩ := xo_s2 hF
    subst q8
    subst q9
    exact hret 27 _ _ _ d_All_corners_27 rfl hP hS
set_option maxHeartbeats 4000000 in
set_option maxRecDepth 100000 in
theorem c_All_sides (l : Launch) (D : va_G) (cI cZ : ClassId) (ad : Nat → Nat) (A : Nat → Prop) (adK adV : Nat → Nat) (hDw : ∀ st : XS, va_D A (xw_C ad cI cZ st)) (x1 : Int32) (st : XS) (r9 : Int32) (st9 : XS) (hF : F_All_sides x1 st = some (r9, st9)) : K_I l D cI cZ A adK adV (xw_C ad cI cZ) y_All_sides b_All_sides 2 (some .int) 3 66 [.ref (ad 0), .int x1] st r9 st9 := by
  refine xk_startI (by decide) .int rfl (Nat.le_of_ble_eq_true rfl) ?_
  intro p e s m args below meth c Q ls hx hb hml hown hts hK hE hP hS hl hret
  replace hown : s.vm.findClass R_All = some m.cls := hown
  replace hl : lv_has ls 2 [(0, .ref (ad 0)), (1, .int x1)] := hl
  unfold F_All_sides at hF
  refine lv_aload_n hx hb d_All_sides_0 rfl (lv_at hl 0 rfl) ?_
  refine xk_get (C := R_All) (T := F_All) (N := 9) hx hb hts i_All hown hK hP 0 xw_C_at_0 rfl 4 (by decide) u_238 rfl d_All_sides_1 ?_
  refine lv_iload_n hx hb d_All_sides_4 rfl (lv_at hl 1 rfl) ?_
  obtain ⟨v1, h_v1, hF⟩ := xo_ob hF
  refine xk_goI (xk_runV (As := [.int x1]) (rest := []) hx hb hml hown hts hK hE (fun _ h => h) hP hS ok_Pla_hasQuarter in_Pla_hasQuarter u_493 (c_Pla_hasQuarter l D cI cZ ad A adK adV hDw x1 st v1 h_v1) (va_recv hK hP (ci := 1) (q0 := 22) rfl xw_C_at_22) (by decide) rfl hl.1 rfl (Nat.le_of_ble_eq_true rfl) d_All_sides_5 ⟨Nat.le_refl _, Nat.le_refl _⟩) (fun _ h => h) hS (fun H locs hP hS => ?_)
  refine lv_if_eq (tgt := 22) hx hb d_All_sides_8 (by decide) (fun c_126 => ?_) (fun c_126 => ?_)
  · replace hF := xo_if_t c_126 hF
    refine lv_aload_n hx hb d_All_sides_22 rfl (lv_at hl 0 rfl) ?_
    refine lv_iconst (v := (-1 : Int32)) hx hb d_All_sides_23 (by decide) ?_
    obtain ⟨v2, t3, h_v2, hF⟩ := xo_ob2 hF
    refine xk_goI (xk_runV (As := [.int (-1 : Int32)]) (rest := []) hx hb hml hown hts hK hE (fun _ h => h) hP hS ok_All_refuse in_All_refuse u_266 (c_All_refuse l D cI cZ ad A adK adV hDw (-1 : Int32) st v2 t3 h_v2) (va_recv hK hP (ci := 3) (q0 := 0) rfl xw_C_at_0) (by decide) rfl hl.1 rfl (Nat.le_of_ble_eq_true rfl) d_All_sides_24 ⟨Nat.le_refl _, Nat.le_refl _⟩) (fun _ h => h) hS (fun H locs hP hS => ?_)
    obtain ⟨q8, q9⟩ := xo_s2 hF
    subst q8
    subst q9
    exact hret 27 _ _ _ d_All_sides_27 rfl hP hS
  · replace hF := xo_if_f c_126 hF
    refine lv_aload_n hx hb d_All_sides_11 rfl (lv_at hl 0 rfl) ?_
    refine xk_get (C := R_All) (T := F_All) (N := 9) hx hb hts i_All hown hK hP 0 xw_C_at_0 rfl 4 (by decide) u_238 rfl d_All_sides_12 ?_
    refine lv_iload_n hx hb d_All_sides_15 rfl (lv_at hl 1 rfl) ?_
    obtain ⟨v4, h_v4, hF⟩ := xo_ob hF
    refine xk_goI (xk_runV (As := [.int x1]) (rest := []) hx hb hml hown hts hK hE (fun _ h => h) hP hS ok_Pla_sidesOf in_Pla_sidesOf u_512 (c_Pla_sidesOf l D cI cZ ad A adK adV hDw x1 st v4 h_v4) (va_recv hK hP (ci := 1) (q0 := 22) rfl xw_C_at_22) (by decide) rfl hl.1 rfl (Nat.le_of_ble_eq_true rfl) d_All_sides_16 ⟨Nat.le_refl _, Nat.le_refl _⟩) (fun _ h => h) hS (fun H locs hP hS => ?_)
    refine lv_goto (tgt := 27) hx hb d_All_sides_19 (by decide) ?_
    obtain ⟨q8, q9⟩ := xo_s2 hF
    subst q8
    subst q9
    exact hret 27 _ _ _ d_All_sides_27 rfl hP hS
set_option maxHeartbeats 4000000 in
set_option maxRecDepth 100000 in
theorem c_All_isOpen (l : Launch) (D : va_G) (cI cZ : ClassId) (ad : Nat → Nat) (A : Nat → Prop) (adK adV : Nat → Nat) (hDw : ∀ st : XS, va_D A (xw_C ad cI cZ st)) (x1 : Int32) (st : XS) (r9 : Int32) (st9 : XS) (hF : F_All_isOpen x1 st = some (r9, st9)) : K_I l D cI cZ A adK adV (xw_C ad cI cZ) y_All_isOpen b_All_isOpen 2 (some .int) 2 43 [.ref (ad 0), .int x1] st r9 st9 := by
  refine xk_startI (by decide) .int rfl (Nat.le_of_ble_eq_true rfl) ?_
  intro p e s m args below meth c Q ls hx hb hml hown hts hK hE hP hS hl hret
  replace hown : s.vm.findClass R_All = some m.cls := hown
  replace hl : lv_has ls 2 [(0, .ref (ad 0)), (1, .int x1)] := hl
  unfold F_All_isOpen at hF
  refine lv_aload_n hx hb d_All_isOpen_0 rfl (lv_at hl 0 rfl) ?_
  refine xk_get (C := R_All) (T := F_All) (N := 9) hx hb hts i_All hown hK hP 0 xw_C_at_0 rfl 4 (by decide) u_238 rfl d_All_isOpen_1 ?_
  refine lv_iload_n hx hb d_All_isOpen_4 rfl (lv_at hl 1 rfl) ?_
  obtain ⟨v1, h_v1, hF⟩ := xo_ob hF
  refine xk_goI (xk_runV (As := [.int x1]) (rest := []) hx hb hml hown hts hK hE (fun _ h => h) hP hS ok_Pla_hasQuarter in_Pla_hasQuarter u_493 (c_Pla_hasQuarter l D cI cZ ad A adK adV hDw x1 st v1 h_v1) (va_recv hK hP (ci := 1) (q0 := 22) rfl xw_C_at_22) (by decide) rfl hl.1 rfl (Nat.le_of_ble_eq_true rfl) d_All_isOpen_5 ⟨Nat.le_refl _, Nat.le_refl _⟩) (fun _ h => h) hS (fun H locs hP hS => ?_)
  refine lv_if_ne (tgt := 17) hx hb d_All_isOpen_8 (by decide) (fun c_127 => ?_) (fun c_127 => ?_)
  · replace hF := xo_if_f c_127 hF
    refine lv_aload_n hx hb d_All_isOpen_17 rfl (lv_at hl 0 rfl) ?_
    refine xk_get (C := R_All) (T := F_All) (N := 9) hx hb hts i_All hown hK hP 0 xw_C_at_0 rfl 4 (by decide) u_238 rfl d_All_isOpen_18 ?_
    refine xk_get (C := R_Pla) (T := F_Pla) (N := 9) hx hb hts i_Pla hown hK hP 22 xw_C_at_22 rfl 2 (by decide) u_128 rfl d_All_isOpen_21 ?_
    refine lv_iload_n hx hb d_All_isOpen_24 rfl (lv_at hl 1 rfl) ?_
    obtain ⟨v4, h_v4, hF⟩ := xo_ob hF
    refine xk_goI (xk_runS (As := [.long (st.2 1), .int x1]) (rest := []) hx hb hml hown hts hK hE (fun _ h => h) hP hS ok_All_has st_All_has u_521 (c_All_has l D cI cZ ad A adK adV hDw (st.2 1) x1 st v4 h_v4) (by decide) rfl hl.1 rfl (Nat.le_of_ble_eq_true rfl) d_All_isOpen_25 ⟨Nat.le_refl _, Nat.le_refl _⟩) (fun _ h => h) hS (fun H locs hP hS => ?_)
    refine lv_if_eq (tgt := 35) hx hb d_All_isOpen_28 (by decide) (fun c_128 => ?_) (fun c_128 => ?_)
    · replace hF := xo_if_t c_128 hF
      refine lv_iconst (v := (0 : Int32)) hx hb d_All_isOpen_35 (by decide) ?_
      obtain ⟨q8, q9⟩ := xo_s2 hF
      subst q8
      subst q9
      exact hret 36 _ _ _ d_All_isOpen_36 rfl hP hS
    · replace hF := xo_if_f c_128 hF
      refine lv_iconst (v := (1 : Int32)) hx hb d_All_isOpen_31 (by decide) ?_
      refine lv_goto (tgt := 36) hx hb d_All_isOpen_32 (by decide) ?_
      obtain ⟨q8, q9⟩ := xo_s2 hF
      subst q8
      subst q9
      exact hret 36 _ _ _ d_All_isOpen_36 rfl hP hS
  · replace hF := xo_if_t c_127 hF
    refine lv_aload_n hx hb d_All_isOpen_11 rfl (lv_at hl 0 rfl) ?_
    refine lv_iconst (v := (-1 : Int32)) hx hb d_All_isOpen_12 (by decide) ?_
    obtain ⟨v2, t3, h_v2, hF⟩ := xo_ob2 hF
    refine xk_goI (xk_runV (As := [.int (-1 : Int32)]) (rest := []) hx hb hml hown hts hK hE (fun _ h => h) hP hS ok_All_refuse in_All_refuse u_266 (c_All_refuse l D cI cZ ad A adK adV hDw (-1 : Int32) st v2 t3 h_v2) (va_recv hK hP (ci := 3) (q0 := 0) rfl xw_C_at_0) (by decide) rfl hl.1 rfl (Nat.le_of_ble_eq_true rfl) d_All_isOpen_13 ⟨Nat.le_refl _, Nat.le_refl _⟩) (fun _ h => h) hS (fun H locs hP hS => ?_)
    obtain ⟨q8, q9⟩ := xo_s2 hF
    subst q8
    subst q9
    exact hret 16 _ _ _ d_All_isOpen_16 rfl hP hS
set_option maxHeartbeats 4000000 in
set_option maxRecDepth 100000 in
theorem c_All_whole (l : Launch) (D : va_G) (cI cZ : ClassId) (ad : Nat → Nat) (A : Nat → Prop) (adK adV : Nat → Nat) (hDw : ∀ st : XS, va_D A (xw_C ad cI cZ st)) (st : XS) (r9 : Int32) (hF : F_All_whole  st = some r9) : K_I l D cI cZ A adK adV (xw_C ad cI cZ) y_All_whole b_All_whole 3 (some .int) 3 66 [.ref (ad 0)] st r9 st := by
  refine xk_startI (by decide) .int rfl (Nat.le_of_ble_eq_true rfl) ?_
  intro p e s m args below meth c Q ls hx hb hml hown hts hK hE hP hS hl hret
  replace hown : s.vm.findClass R_All = some m.cls := hown
  replace hl : lv_has ls 3 [(0, .ref (ad 0))] := hl
  unfold F_All_whole at hF
  refine lv_iconst (v := (0 : Int32)) hx hb d_All_whole_0 (by decide) ?_
  refine lv_istore_n (lv' := [(1, .int (0 : Int32)), (0, .ref (ad 0))]) hx hb d_All_whole_1 rfl hl (by decide) rfl (fun ls hl => ?_)
  refine lv_iconst (v := (0 : Int32)) hx hb d_All_whole_2 (by decide) ?_
  refine lv_istore_n (lv' := [(2, .int (0 : Int32)), (1, .int (0 : Int32)), (0, .ref (ad 0))]) hx hb d_All_whole_3 rfl hl (by decide) rfl (fun ls hl => ?_)
  have lp4 : ∀ (n : Nat) (w4_1 : Int32) (w4_2 : Int32) (y : Int32), xo_lp (fun q : (Int32 × Int32) => F_All_whole_b4 st q.1 q.2) n (w4_1, w4_2) = some y → (∀ (e1 : Int32), e1 = y → ∀ (H : Heap) (locs : List Loc) (ls : Array Slot), va_P D classes (xw_C ad cI cZ st) H → va_S A s.heap H locs → lv_has ls 3 [(1, .int e1)] → W p l e (xk_rm 3 66) s m args below meth c H locs 0 0 Q (F0 m 48 ls [])) → ∀ (H : Heap) (locs : List Loc) (ls : Array Slot), va_P D classes (xw_C ad cI cZ st) H → va_S A s.heap H locs → lv_has ls 3 [(0, .ref (ad 0)), (1, .int w4_1), (2, .int w4_2)] → W p l e (xk_rm 3 66) s m args below meth c H locs 0 0 Q (F0 m 4 ls []) := by
    intro n
    induction n with
    | zero =>
      intro w4_1 w4_2 y hL
      exact nomatch (show (none : Option _) = some y from hL)
    | succ n ih =>
      intro w4_1 w4_2 y hL kx0 H locs ls hP hS hl
      obtain ⟨z9, hB, hL⟩ := xo_lp_s hL
      replace hB : F_All_whole_b4 st w4_1 w4_2 = some z9 := hB
      unfold F_All_whole_b4 at hB
      refine lv_iload_n hx hb d_All_whole_4 rfl (lv_at hl 2 rfl) ?_
      refine lv_bipush (v := (64 : Int32)) hx hb d_All_whole_5 (by decide) ?_
      refine lv_icmp_ge (tgt := 48) hx hb d_All_whole_7 (by decide) (fun c_129 => ?_) (fun c_129 => ?_)
      · replace hB := xo_if_t c_129 hB
        have q9 := Option.some.inj hB
        subst q9
        replace hL := Option.some.inj (xo_elR hL)
        subst hL
        exact kx0 _ rfl _ _ _ hP hS (lv_sub hl [1] rfl)
      · replace hB := xo_if_f c_129 hB
        refine lv_aload_n hx hb d_All_whole_10 rfl (lv_at hl 0 rfl) ?_
        refine xk_get (C := R_All) (T := F_All) (N := 9) hx hb hts i_All hown hK hP 0 xw_C_at_0 rfl 4 (by decide) u_238 rfl d_All_whole_11 ?_
        refine lv_iload_n hx hb d_All_whole_14 rfl (lv_at hl 2 rfl) ?_
        obtain ⟨v2, h_v2, hB⟩ := xo_ob hB
        refine xk_goI (xk_runV (As := [.int w4_2]) (rest := []) hx hb hml hown hts hK hE (fun _ h => h) hP hS ok_Pla_hasQuarter in_Pla_hasQuarter u_493 (c_Pla_hasQuarter l D cI cZ ad A adK adV hDw w4_2 st v2 h_v2) (va_recv hK hP (ci := 1) (q0 := 22) rfl xw_C_at_22) (by decide) rfl hl.1 rfl (Nat.le_of_ble_eq_true rfl) d_All_whole_15 ⟨Nat.le_refl _, Nat.le_refl _⟩) (fun _ h => h) hS (fun H locs hP hS => ?_)
        refine lv_if_eq (tgt := 42) hx hb d_All_whole_18 (by decide) (fun c_130 => ?_) (fun c_130 => ?_)
        · replace hB := xo_if_t c_130 hB
          obtain ⟨v3, e_v3, hB⟩ := xo_nm_e hB
          refine lv_iinc (v := v3) (lv' := [(2, .int v3), (0, .ref (ad 0)), (1, .int w4_1)]) hx hb d_All_whole_42 hl (k := 2) rfl (by rw [e_v3]; rfl) (by decide) rfl (fun ls hl => ?_)
          clear e_v3
          refine lv_goto (tgt := 4) hx hb d_All_whole_45 (by decide) ?_
          have q9 := Option.some.inj hB
          subst q9
          exact ih _ _ _ (xo_elL hL) kx0 _ _ _ hP hS (lv_sub hl [1, 2, 0] rfl)
        · replace hB := xo_if_f c_130 hB
          refine lv_aload_n hx hb d_All_whole_21 rfl (lv_at hl 0 rfl) ?_
          refine xk_get (C := R_All) (T := F_All) (N := 9) hx hb hts i_All hown hK hP 0 xw_C_at_0 rfl 4 (by decide) u_238 rfl d_All_whole_22 ?_
          refine lv_iload_n hx hb d_All_whole_25 rfl (lv_at hl 2 rfl) ?_
          obtain ⟨v4, h_v4, hB⟩ := xo_ob hB
          refine xk_goI (xk_runV (As := [.int w4_2]) (rest := []) hx hb hml hown hts hK hE (fun _ h => h) hP hS ok_Pla_sidesOf in_Pla_sidesOf u_512 (c_Pla_sidesOf l D cI cZ ad A adK adV hDw w4_2 st v4 h_v4) (va_recv hK hP (ci := 1) (q0 := 22) rfl xw_C_at_22) (by decide) rfl hl.1 rfl (Nat.le_of_ble_eq_true rfl) d_All_whole_26 ⟨Nat.le_refl _, Nat.le_refl _⟩) (fun _ h => h) hS (fun H locs hP hS => ?_)
          refine lv_aload_n hx hb d_All_whole_29 rfl (lv_at hl 0 rfl) ?_
          refine xk_get (C := R_All) (T := F_All) (N := 9) hx hb hts i_All hown hK hP 0 xw_C_at_0 rfl 0 (by decide) u_234 rfl d_All_whole_30 ?_
          refine xk_get (C := R_Tow) (T := F_Tow) (N := 8) hx hb hts i_Tow hown hK hP 1 xw_C_at_1 rfl 4 (by decide) u_91 rfl d_All_whole_33 ?_
          refine lv_icmp_ne (tgt := 42) hx hb d_All_whole_36 (by decide) (fun c_131 => ?_) (fun c_131 => ?_)
          · replace hB := xo_if_f c_131 hB
            obtain ⟨v7, e_v7, hB⟩ := xo_nm_e hB
            refine lv_iinc (v := v7) (lv' := [(2, .int v7), (0, .ref (ad 0)), (1, .int w4_1)]) hx hb d_All_whole_42 hl (k := 2) rfl (by rw [e_v7]; rfl) (by decide) rfl (fun ls hl => ?_)
            clear e_v7
            refine lv_goto (tgt := 4) hx hb d_All_whole_45 (by decide) ?_
            have q9 := Option.some.inj hB
            subst q9
            exact ih _ _ _ (xo_elL hL) kx0 _ _ _ hP hS (lv_sub hl [1, 2, 0] rfl)
          · replace hB := xo_if_t c_131 hB
            obtain ⟨v5, e_v5, hB⟩ := xo_nm_e hB
            refine lv_iinc (v := v5) (lv' := [(1, .int v5), (0, .ref (ad 0)), (2, .int w4_2)]) hx hb d_All_whole_39 hl (k := 1) rfl (by rw [e_v5]; rfl) (by decide) rfl (fun ls hl => ?_)
            clear e_v5
            obtain ⟨v6, e_v6, hB⟩ := xo_nm_e hB
            refine lv_iinc (v := v6) (lv' := [(2, .int v6), (1, .int v5), (0, .ref (ad 0))]) hx hb d_All_whole_42 hl (k := 2) rfl (by rw [e_v6]; rfl) (by decide) rfl (fun ls hl => ?_)
            clear e_v6
            refine lv_goto (tgt := 4) hx hb d_All_whole_45 (by decide) ?_
            have q9 := Option.some.inj hB
            subst q9
            exact ih _ _ _ (xo_elL hL) kx0 _ _ _ hP hS (lv_sub hl [2, 1, 0] rfl)
  obtain ⟨y4, hL4, hF⟩ := xo_ob hF
  refine lp4 1000000 (0 : Int32) (0 : Int32) y4 hL4 ?_ _ _ _ hP hS (lv_sub hl [2, 1, 0] rfl)
  intro o1 ey H locs ls hP hS hl
  subst ey
  refine lv_iload_n hx hb d_All_whole_48 rfl (lv_at hl 0 rfl) ?_
  have q9 := Option.some.inj hF
  subst q9
  exact hret 49 _ _ _ d_All_whole_49 rfl hP hS
set_option maxHeartbeats 4000000 in
set_option maxRecDepth 100000 in
theorem c_All_points (l : Launch) (D : va_G) (cI cZ : ClassId) (ad : Nat → Nat) (A : Nat → Prop) (adK adV : Nat → Nat) (hDw : ∀ st : XS, va_D A (xw_C ad cI cZ st)) (x1 : Int32) (st : XS) (r9 : Int32) (st9 : XS) (hF : F_All_points x1 st = some (r9, st9)) : K_I l D cI cZ A adK adV (xw_C ad cI cZ) y_All_points b_All_points 2 (some .int) 3 63 [.ref (ad 0), .int x1] st r9 st9 := by
  refine xk_startI (by decide) .int rfl (Nat.le_of_ble_eq_true rfl) ?_
  intro p e s m args below meth c Q ls hx hb hml hown hts hK hE hP hS hl hret
  replace hown : s.vm.findClass R_All = some m.cls := hown
  replace hl : lv_has ls 2 [(0, .ref (ad 0)), (1, .int x1)] := hl
  unfold F_All_points at hF
  refine lv_iload_n hx hb d_All_points_0 rfl (lv_at hl 1 rfl) ?_
  by_cases c_135 : x1 = (0 : Int32)
  · replace hF := xo_if_t c_135 hF
    refine lv_tableIn (off := 27) (tgt := 28) hx hb d_All_points_1 (by rw [c_135]; decide) (by rw [c_135]; decide) (by rw [c_135]; decide) (by decide) ?_
    refine lv_aload_n hx hb d_All_points_28 rfl (lv_at hl 0 rfl) ?_
    refine xk_get (C := R_All) (T := F_All) (N := 9) hx hb hts i_All hown hK hP 0 xw_C_at_0 rfl 4 (by decide) u_238 rfl d_All_points_29 ?_
    refine xk_get (C := R_Pla) (T := F_Pla) (N := 9) hx hb hts i_Pla hown hK hP 22 xw_C_at_22 rfl 3 (by decide) u_131 rfl d_All_points_32 ?_
    obtain ⟨q8, q9⟩ := xo_s2 hF
    subst q8
    subst q9
    exact hret 35 _ _ _ d_All_points_35 rfl hP hS
  · replace hF := xo_if_f c_135 hF
    by_cases c_136 : x1 = (1 : Int32)
    · replace hF := xo_if_t c_136 hF
      refine lv_tableIn (off := 35) (tgt := 36) hx hb d_All_points_1 (by rw [c_136]; decide) (by rw [c_136]; decide) (by rw [c_136]; decide) (by decide) ?_
      refine lv_aload_n hx hb d_All_points_36 rfl (lv_at hl 0 rfl) ?_
      refine xk_get (C := R_All) (T := F_All) (N := 9) hx hb hts i_All hown hK hP 0 xw_C_at_0 rfl 4 (by decide) u_238 rfl d_All_points_37 ?_
      obtain ⟨v1, h_v1, hF⟩ := xo_ob hF
      refine xk_goI (xk_runV (As := []) (rest := []) hx hb hml hown hts hK hE (fun _ h => h) hP hS ok_Pla_squares in_Pla_squares u_530 (c_Pla_squares l D cI cZ ad A adK adV hDw st v1 h_v1) (va_recv hK hP (ci := 1) (q0 := 22) rfl xw_C_at_22) (by decide) rfl hl.1 rfl (Nat.le_of_ble_eq_true rfl) d_All_points_40 ⟨Nat.le_refl _, Nat.le_refl _⟩) (fun _ h => h) hS (fun H locs hP hS => ?_)
      obtain ⟨q8, q9⟩ := xo_s2 hF
      subst q8
      subst q9
      exact hret 43 _ _ _ d_All_points_43 rfl hP hS
    · replace hF := xo_if_f c_136 hF
      by_cases c_137 : x1 = (2 : Int32)
      · replace hF := xo_if_t c_137 hF
        refine lv_tableIn (off := 43) (tgt := 44) hx hb d_All_points_1 (by rw [c_137]; decide) (by rw [c_137]; decide) (by rw [c_137]; decide) (by decide) ?_
        refine lv_aload_n hx hb d_All_points_44 rfl (lv_at hl 0 rfl) ?_
        refine xk_get (C := R_All) (T := F_All) (N := 9) hx hb hts i_All hown hK hP 0 xw_C_at_0 rfl 4 (by decide) u_238 rfl d_All_points_45 ?_
        obtain ⟨v2, h_v2, hF⟩ := xo_ob hF
        refine xk_goI (xk_runV (As := []) (rest := []) hx hb hml hown hts hK hE (fun _ h => h) hP hS ok_Pla_mostMeeting in_Pla_mostMeeting u_534 (c_Pla_mostMeeting l D cI cZ ad A adK adV hDw st v2 h_v2) (va_recv hK hP (ci := 1) (q0 := 22) rfl xw_C_at_22) (by decide) rfl hl.1 rfl (Nat.le_of_ble_eq_true rfl) d_All_points_48 ⟨Nat.le_refl _, Nat.le_refl _⟩) (fun _ h => h) hS (fun H locs hP hS => ?_)
        obtain ⟨q8, q9⟩ := xo_s2 hF
        subst q8
        subst q9
        exact hret 51 _ _ _ d_All_points_51 rfl hP hS
      · replace hF := xo_if_f c_137 hF
        refine lv_tableOut (tgt := 52) hx hb d_All_points_1 (xk_out_0_2 c_135 c_136 c_137) (by decide) ?_
        refine lv_aload_n hx hb d_All_points_52 rfl (lv_at hl 0 rfl) ?_
        refine lv_bipush (v := (-2 : Int32)) hx hb d_All_points_53 (by decide) ?_
        obtain ⟨v3, t4, h_v3, hF⟩ := xo_ob2 hF
        refine xk_goI (xk_runV (As := [.int (-2 : Int32)]) (rest := []) hx hb hml hown hts hK hE (fun _ h => h) hP hS ok_All_refuse in_All_refuse u_266 (c_All_refuse l D cI cZ ad A adK adV hDw (-2 : Int32) st v3 t4 h_v3) (va_recv hK hP (ci := 3) (q0 := 0) rfl xw_C_at_0) (by decide) rfl hl.1 rfl (Nat.le_of_ble_eq_true rfl) d_All_points_55 ⟨Nat.le_refl _, Nat.le_refl _⟩) (fun _ h => h) hS (fun H locs hP hS => ?_)
        obtain ⟨q8, q9⟩ := xo_s2 hF
        subst q8
        subst q9
        exact hret 58 _ _ _ d_All_points_58 rfl hP hS
set_option maxHeartbeats 4000000 in
set_option maxRecDepth 100000 in
theorem c_All_lamps (l : Launch) (D : va_G) (cI cZ : ClassId) (ad : Nat → Nat) (A : Nat → Prop) (adK adV : Nat → Nat) (hDw : ∀ st : XS, va_D A (xw_C ad cI cZ st)) (st : XS) (r9 : Int32) (hF : F_All_lamps  st = some r9) : K_I l D cI cZ A adK adV (xw_C ad cI cZ) y_All_lamps b_All_lamps 3 (some .int) 3 64 [.ref (ad 0)] st r9 st := by
  refine xk_startI (by decide) .int rfl (Nat.le_of_ble_eq_true rfl) ?_
  intro p e s m args below meth c Q ls hx hb hml hown hts hK hE hP hS hl hret
  replace hown : s.vm.findClass R_All = some m.cls := hown
  replace hl : lv_has ls 3 [(0, .ref (ad 0))] := hl
  unfold F_All_lamps at hF
  refine lv_iconst (v := (0 : Int32)) hx hb d_All_lamps_0 (by decide) ?_
  refine lv_istore_n (lv' := [(1, .int (0 : Int32)), (0, .ref (ad 0))]) hx hb d_All_lamps_1 rfl hl (by decide) rfl (fun ls hl => ?_)
  refine lv_iconst (v := (0 : Int32)) hx hb d_All_lamps_2 (by decide) ?_
  refine lv_istore_n (lv' := [(2, .int (0 : Int32)), (1, .int (0 : Int32)), (0, .ref (ad 0))]) hx hb d_All_lamps_3 rfl hl (by decide) rfl (fun ls hl => ?_)
  have lp4 : ∀ (n : Nat) (w4_1 : Int32) (w4_2 : Int32) (y : Int32), xo_lp (fun q : (Int32 × Int32) => F_All_lamps_b4 st q.1 q.2) n (w4_1, w4_2) = some y → (∀ (e1 : Int32), e1 = y → ∀ (H : Heap) (locs : List Loc) (ls : Array Slot), va_P D classes (xw_C ad cI cZ st) H → va_S A s.heap H locs → lv_has ls 3 [(1, .int e1)] → W p l e (xk_rm 3 64) s m args below meth c H locs 0 0 Q (F0 m 32 ls [])) → ∀ (H : Heap) (locs : List Loc) (ls : Array Slot), va_P D classes (xw_C ad cI cZ st) H → va_S A s.heap H locs → lv_has ls 3 [(0, .ref (ad 0)), (1, .int w4_1), (2, .int w4_2)] → W p l e (xk_rm 3 64) s m args below meth c H locs 0 0 Q (F0 m 4 ls []) := by
    intro n
    induction n with
    | zero =>
      intro w4_1 w4_2 y hL
      exact nomatch (show (none : Option _) = some y from hL)
    | succ n ih =>
      intro w4_1 w4_2 y hL kx0 H locs ls hP hS hl
      obtain ⟨z9, hB, hL⟩ := xo_lp_s hL
      replace hB : F_All_lamps_b4 st w4_1 w4_2 = some z9 := hB
      unfold F_All_lamps_b4 at hB
      refine lv_iload_n hx hb d_All_lamps_4 rfl (lv_at hl 2 rfl) ?_
      refine lv_aload_n hx hb d_All_lamps_5 rfl (lv_at hl 0 rfl) ?_
      refine xk_get (C := R_All) (T := F_All) (N := 9) hx hb hts i_All hown hK hP 0 xw_C_at_0 rfl 0 (by decide) u_234 rfl d_All_lamps_6 ?_
      refine xk_get (C := R_Tow) (T := F_Tow) (N := 8) hx hb hts i_Tow hown hK hP 1 xw_C_at_1 rfl 4 (by decide) u_91 rfl d_All_lamps_9 ?_
      refine lv_icmp_ge (tgt := 32) hx hb d_All_lamps_12 (by decide) (fun c_138 => ?_) (fun c_138 => ?_)
      · replace hB := xo_if_t c_138 hB
        have q9 := Option.some.inj hB
        subst q9
        replace hL := Option.some.inj (xo_elR hL)
        subst hL
        exact kx0 _ rfl _ _ _ hP hS (lv_sub hl [1] rfl)
      · replace hB := xo_if_f c_138 hB
        refine lv_iload_n hx hb d_All_lamps_15 rfl (lv_at hl 1 rfl) ?_
        refine lv_aload_n hx hb d_All_lamps_16 rfl (lv_at hl 0 rfl) ?_
        refine xk_get (C := R_All) (T := F_All) (N := 9) hx hb hts i_All hown hK hP 0 xw_C_at_0 rfl 4 (by decide) u_238 rfl d_All_lamps_17 ?_
        refine lv_iload_n hx hb d_All_lamps_20 rfl (lv_at hl 2 rfl) ?_
        obtain ⟨v2, h_v2, hB⟩ := xo_ob hB
        refine xk_goI (xk_runV (As := [.int w4_2]) (rest := [.int w4_1]) hx hb hml hown hts hK hE (fun _ h => h) hP hS ok_Pla_lampsFrom in_Pla_lampsFrom u_439 (c_Pla_lampsFrom l D cI cZ ad A adK adV hDw w4_2 st v2 h_v2) (va_recv hK hP (ci := 1) (q0 := 22) rfl xw_C_at_22) (by decide) rfl hl.1 rfl (Nat.le_of_ble_eq_true rfl) d_All_lamps_21 ⟨Nat.le_refl _, Nat.le_refl _⟩) (fun _ h => h) hS (fun H locs hP hS => ?_)
        refine lv_iadd hx hb d_All_lamps_24 ?_
        refine lv_topi (fun v3 e_v3 => ?_)
        replace hB := xo_nm_u hB e_v3
        clear e_v3
        refine lv_istore_n (lv' := [(1, .int v3), (0, .ref (ad 0)), (2, .int w4_2)]) hx hb d_All_lamps_25 rfl hl (by decide) rfl (fun ls hl => ?_)
        obtain ⟨v4, e_v4, hB⟩ := xo_nm_e hB
        refine lv_iinc (v := v4) (lv' := [(2, .int v4), (1, .int v3), (0, .ref (ad 0))]) hx hb d_All_lamps_26 hl (k := 2) rfl (by rw [e_v4]; rfl) (by decide) rfl (fun ls hl => ?_)
        clear e_v4
        refine lv_goto (tgt := 4) hx hb d_All_lamps_29 (by decide) ?_
        have q9 := Option.some.inj hB
        subst q9
        exact ih _ _ _ (xo_elL hL) kx0 _ _ _ hP hS (lv_sub hl [2, 1, 0] rfl)
  obtain ⟨y4, hL4, hF⟩ := xo_ob hF
  refine lp4 1000000 (0 : Int32) (0 : Int32) y4 hL4 ?_ _ _ _ hP hS (lv_sub hl [2, 1, 0] rfl)
  intro o1 ey H locs ls hP hS hl
  subst ey
  refine lv_iload_n hx hb d_All_lamps_32 rfl (lv_at hl 0 rfl) ?_
  have q9 := Option.some.inj hF
  subst q9
  exact hret 33 _ _ _ d_All_lamps_33 rfl hP hS
set_option maxHeartbeats 4000000 in
set_option maxRecDepth 100000 in
theorem c_All_where (l : Launch) (D : va_G) (cI cZ : ClassId) (ad : Nat → Nat) (A : Nat → Prop) (adK adV : Nat → Nat) (hDw : ∀ st : XS, va_D A (xw_C ad cI cZ st)) (x1 : Int32) (st : XS) (r9 : Int32) (st9 : XS) (hF : F_All_where x1 st = some (r9, st9)) : K_I l D cI cZ A adK adV (xw_C ad cI cZ) y_All_where b_All_where 2 (some .int) 4 92 [.ref (ad 0), .int x1] st r9 st9 := by
  refine xk_startI (by decide) .int rfl (Nat.le_of_ble_eq_true rfl) ?_
  intro p e s m args below meth c Q ls hx hb hml hown hts hK hE hP hS hl hret
  replace hown : s.vm.findClass R_All = some m.cls := hown
  replace hl : lv_has ls 2 [(0, .ref (ad 0)), (1, .int x1)] := hl
  unfold F_All_where at hF
  refine lv_aload_n hx hb d_All_where_0 rfl (lv_at hl 0 rfl) ?_
  refine xk_get (C := R_All) (T := F_All) (N := 9) hx hb hts i_All hown hK hP 0 xw_C_at_0 rfl 0 (by decide) u_234 rfl d_All_where_1 ?_
  refine lv_iload_n hx hb d_All_where_4 rfl (lv_at hl 1 rfl) ?_
  obtain ⟨v1, h_v1, hF⟩ := xo_ob hF
  refine xk_goI (xk_runV (As := [.int x1]) (rest := []) hx hb hml hown hts hK hE (fun _ h => h) hP hS ok_Tow_hasPlot in_Tow_hasPlot u_461 (c_Tow_hasPlot l D cI cZ ad A adK adV hDw x1 st v1 h_v1) (va_recv hK hP (ci := 2) (q0 := 1) rfl xw_C_at_1) (by decide) rfl hl.1 rfl (Nat.le_of_ble_eq_true rfl) d_All_where_5 ⟨Nat.le_refl _, Nat.le_refl _⟩) (fun _ h => h) hS (fun H locs hP hS => ?_)
  refine lv_if_eq (tgt := 22) hx hb d_All_where_8 (by decide) (fun c_141 => ?_) (fun c_141 => ?_)
  · replace hF := xo_if_t c_141 hF
    refine lv_aload_n hx hb d_All_where_22 rfl (lv_at hl 0 rfl) ?_
    refine lv_iconst (v := (-1 : Int32)) hx hb d_All_where_23 (by decide) ?_
    obtain ⟨v2, t3, h_v2, hF⟩ := xo_ob2 hF
    refine xk_goI (xk_runV (As := [.int (-1 : Int32)]) (rest := []) hx hb hml hown hts hK hE (fun _ h => h) hP hS ok_All_refuse in_All_refuse u_266 (c_All_refuse l D cI cZ ad A adK adV hDw (-1 : Int32) st v2 t3 h_v2) (va_recv hK hP (ci := 3) (q0 := 0) rfl xw_C_at_0) (by decide) rfl hl.1 rfl (Nat.le_of_ble_eq_true rfl) d_All_where_24 ⟨Nat.le_refl _, Nat.le_refl _⟩) (fun _ h => h) hS (fun H locs hP hS => ?_)
    obtain ⟨q8, q9⟩ := xo_s2 hF
    subst q8
    subst q9
    exact hret 27 _ _ _ d_All_where_27 rfl hP hS
  · replace hF := xo_if_f c_141 hF
    refine lv_aload_n hx hb d_All_where_11 rfl (lv_at hl 0 rfl) ?_
    refine xk_get (C := R_All) (T := F_All) (N := 9) hx hb hts i_All hown hK hP 0 xw_C_at_0 rfl 4 (by decide) u_238 rfl d_All_where_12 ?_
    refine lv_iload_n hx hb d_All_where_15 rfl (lv_at hl 1 rfl) ?_
    obtain ⟨v4, h_v4, hF⟩ := xo_ob hF
    refine xk_goI (xk_runV (As := [.int x1]) (rest := []) hx hb hml hown hts hK hE (fun _ h => h) hP hS ok_Pla_quarterOfPlot in_Pla_quarterOfPlot u_547 (c_Pla_quarterOfPlot l D cI cZ ad A adK adV hDw x1 st v4 h_v4) (va_recv hK hP (ci := 1) (q0 := 22) rfl xw_C_at_22) (by decide) rfl hl.1 rfl (Nat.le_of_ble_eq_true rfl) d_All_where_16 ⟨Nat.le_refl _, Nat.le_refl _⟩) (fun _ h => h) hS (fun H locs hP hS => ?_)
    refine lv_goto (tgt := 27) hx hb d_All_where_19 (by decide) ?_
    obtain ⟨q8, q9⟩ := xo_s2 hF
    subst q8
    subst q9
    exact hret 27 _ _ _ d_All_where_27 rfl hP hS
set_option maxHeartbeats 4000000 in
set_option maxRecDepth 100000 in
theorem c_All_together (l : Launch) (D : va_G) (cI cZ : ClassId) (ad : Nat → Nat) (A : Nat → Prop) (adK adV : Nat → Nat) (hDw : ∀ st : XS, va_D A (xw_C ad cI cZ st)) (x1 : Int32) (st : XS) (r9 : Int32) (st9 : XS) (hF : F_All_together x1 st = some (r9, st9)) : K_I l D cI cZ A adK adV (xw_C ad cI cZ) y_All_together b_All_together 5 (some .int) 4 92 [.ref (ad 0), .int x1] st r9 st9 := by
  refine xk_startI (by decide) .int rfl (Nat.le_of_ble_eq_true rfl) ?_
  intro p e s m args below meth c Q ls hx hb hml hown hts hK hE hP hS hl hret
  replace hown : s.vm.findClass R_All = some m.cls := hown
  replace hl : lv_has ls 5 [(0, .ref (ad 0)), (1, .int x1)] := hl
  unfold F_All_together at hF
  refine lv_aload_n hx hb d_All_together_0 rfl (lv_at hl 0 rfl) ?_
  refine xk_get (C := R_All) (T := F_All) (N := 9) hx hb hts i_All hown hK hP 0 xw_C_at_0 rfl 0 (by decide) u_234 rfl d_All_together_1 ?_
  refine lv_iload_n hx hb d_All_together_4 rfl (lv_at hl 1 rfl) ?_
  obtain ⟨v1, h_v1, hF⟩ := xo_ob hF
  refine xk_goI (xk_runV (As := [.int x1]) (rest := []) hx hb hml hown hts hK hE (fun _ h => h) hP hS ok_Tow_hasPlot in_Tow_hasPlot u_461 (c_Tow_hasPlot l D cI cZ ad A adK adV hDw x1 st v1 h_v1) (va_recv hK hP (ci := 2) (q0 := 1) rfl xw_C_at_1) (by decide) rfl hl.1 rfl (Nat.le_of_ble_eq_true rfl) d_All_together_5 ⟨Nat.le_refl _, Nat.le_refl _⟩) (fun _ h => h) hS (fun H locs hP hS => ?_)
  refine lv_if_ne (tgt := 17) hx hb d_All_together_8 (by decide) (fun c_142 => ?_) (fun c_142 => ?_)
  · replace hF := xo_if_f c_142 hF
    refine lv_aload_n hx hb d_All_together_17 rfl (lv_at hl 0 rfl) ?_
    refine xk_get (C := R_All) (T := F_All) (N := 9) hx hb hts i_All hown hK hP 0 xw_C_at_0 rfl 4 (by decide) u_238 rfl d_All_together_18 ?_
    refine lv_iload_n hx hb d_All_together_21 rfl (lv_at hl 1 rfl) ?_
    obtain ⟨v4, h_v4, hF⟩ := xo_ob hF
    refine xk_goI (xk_runV (As := [.int x1]) (rest := []) hx hb hml hown hts hK hE (fun _ h => h) hP hS ok_Pla_quarterOfPlot in_Pla_quarterOfPlot u_547 (c_Pla_quarterOfPlot l D cI cZ ad A adK adV hDw x1 st v4 h_v4) (va_recv hK hP (ci := 1) (q0 := 22) rfl xw_C_at_22) (by decide) rfl hl.1 rfl (Nat.le_of_ble_eq_true rfl) d_All_together_22 ⟨Nat.le_refl _, Nat.le_refl _⟩) (fun _ h => h) hS (fun H locs hP hS => ?_)
    refine lv_istore_n (lv' := [(2, .int v4), (0, .ref (ad 0)), (1, .int x1)]) hx hb d_All_together_25 rfl hl (by decide) rfl (fun ls hl => ?_)
    refine lv_iconst (v := (0 : Int32)) hx hb d_All_together_26 (by decide) ?_
    refine lv_istore_n (lv' := [(3, .int (0 : Int32)), (2, .int v4), (0, .ref (ad 0)), (1, .int x1)]) hx hb d_All_together_27 rfl hl (by decide) rfl (fun ls hl => ?_)
    refine lv_iconst (v := (0 : Int32)) hx hb d_All_together_28 (by decide) ?_
    refine lv_istore (lv' := [(4, .int (0 : Int32)), (3, .int (0 : Int32)), (2, .int v4), (0, .ref (ad 0)), (1, .int x1)]) hx hb d_All_together_29 hl (by decide) rfl (fun ls hl => ?_)
    have lp31 : ∀ (n : Nat) (w31_3 : Int32) (w31_4 : Int32) (y : Int32), xo_lp (fun q : (Int32 × Int32) => F_All_together_b31 v4 st q.1 q.2) n (w31_3, w31_4) = some y → (∀ (e3 : Int32), e3 = y → ∀ (H : Heap) (locs : List Loc) (ls : Array Slot), va_P D classes (xw_C ad cI cZ st) H → va_S A s.heap H locs → lv_has ls 5 [(3, .int e3)] → W p l e (xk_rm 4 92) s m args below meth c H locs 0 0 Q (F0 m 75 ls [])) → ∀ (H : Heap) (locs : List Loc) (ls : Array Slot), va_P D classes (xw_C ad cI cZ st) H → va_S A s.heap H locs → lv_has ls 5 [(0, .ref (ad 0)), (2, .int v4), (3, .int w31_3), (4, .int w31_4)] → W p l e (xk_rm 4 92) s m args below meth c H locs 0 0 Q (F0 m 31 ls []) := by
      intro n
      induction n with
      | zero =>
        intro w31_3 w31_4 y hL
        exact nomatch (show (none : Option _) = some y from hL)
      | succ n ih =>
        intro w31_3 w31_4 y hL kx0 H locs ls hP hS hl
        obtain ⟨z9, hB, hL⟩ := xo_lp_s hL
        replace hB : F_All_together_b31 v4 st w31_3 w31_4 = some z9 := hB
        unfold F_All_together_b31 at hB
        refine lv_iload hx hb d_All_together_31 (lv_at hl 3 rfl) ?_
        refine lv_aload_n hx hb d_All_together_33 rfl (lv_at hl 0 rfl) ?_
        refine xk_get (C := R_All) (T := F_All) (N := 9) hx hb hts i_All hown hK hP 0 xw_C_at_0 rfl 0 (by decide) u_234 rfl d_All_together_34 ?_
        refine xk_get (C := R_Tow) (T := F_Tow) (N := 8) hx hb hts i_Tow hown hK hP 1 xw_C_at_1 rfl 7 (by decide) u_100 rfl d_All_together_37 ?_
        refine lv_icmp_ge (tgt := 75) hx hb d_All_together_40 (by decide) (fun c_143 => ?_) (fun c_143 => ?_)
        · replace hB := xo_if_t c_143 hB
          have q9 := Option.some.inj hB
          subst q9
          replace hL := Option.some.inj (xo_elR hL)
          subst hL
          exact kx0 _ rfl _ _ _ hP hS (lv_sub hl [2] rfl)
        · replace hB := xo_if_f c_143 hB
          refine lv_iload_n hx hb d_All_together_43 rfl (lv_at hl 1 rfl) ?_
          refine lv_bipush (v := (-9 : Int32)) hx hb d_All_together_44 (by decide) ?_
          refine lv_icmp_eq (tgt := 69) hx hb d_All_together_46 (by decide) (fun c_144 => ?_) (fun c_144 => ?_)
          · replace hB := xo_if_t c_144 hB
            obtain ⟨v6, e_v6, hB⟩ := xo_nm_e hB
            refine lv_iinc (v := v6) (lv' := [(4, .int v6), (0, .ref (ad 0)), (2, .int v4), (3, .int w31_3)]) hx hb d_All_together_69 hl (k := 3) rfl (by rw [e_v6]; rfl) (by decide) rfl (fun ls hl => ?_)
            clear e_v6
            refine lv_goto (tgt := 31) hx hb d_All_together_72 (by decide) ?_
            have q9 := Option.some.inj hB
            subst q9
            exact ih _ _ _ (xo_elL hL) kx0 _ _ _ hP hS (lv_sub hl [1, 2, 3, 0] rfl)
          · replace hB := xo_if_f c_144 hB
            refine lv_aload_n hx hb d_All_together_49 rfl (lv_at hl 0 rfl) ?_
            refine xk_get (C := R_All) (T := F_All) (N := 9) hx hb hts i_All hown hK hP 0 xw_C_at_0 rfl 4 (by decide) u_238 rfl d_All_together_50 ?_
            refine lv_iload hx hb d_All_together_53 (lv_at hl 3 rfl) ?_
            obtain ⟨v7, h_v7, hB⟩ := xo_ob hB
            refine xk_goI (xk_runV (As := [.int w31_4]) (rest := []) hx hb hml hown hts hK hE (fun _ h => h) hP hS ok_Pla_quarterOfPlot in_Pla_quarterOfPlot u_547 (c_Pla_quarterOfPlot l D cI cZ ad A adK adV hDw w31_4 st v7 h_v7) (va_recv hK hP (ci := 1) (q0 := 22) rfl xw_C_at_22) (by decide) rfl hl.1 rfl (Nat.le_of_ble_eq_true rfl) d_All_together_55 ⟨Nat.le_refl _, Nat.le_refl _⟩) (fun _ h => h) hS (fun H locs hP hS => ?_)
            refine lv_iload_n hx hb d_All_together_58 rfl (lv_at hl 1 rfl) ?_
            refine lv_icmp_ne (tgt := 69) hx hb d_All_together_59 (by decide) (fun c_145 => ?_) (fun c_145 => ?_)
            · replace hB := xo_if_f c_145 hB
              obtain ⟨v10, e_v10, hB⟩ := xo_nm_e hB
              refine lv_iinc (v := v10) (lv' := [(4, .int v10), (0, .ref (ad 0)), (2, .int v4), (3, .int w31_3)]) hx hb d_All_together_69 hl (k := 3) rfl (by rw [e_v10]; rfl) (by decide) rfl (fun ls hl => ?_)
              clear e_v10
              refine lv_goto (tgt := 31) hx hb d_All_together_72 (by decide) ?_
              have q9 := Option.some.inj hB
              subst q9
              exact ih _ _ _ (xo_elL hL) kx0 _ _ _ hP hS (lv_sub hl [1, 2, 3, 0] rfl)
            · replace hB := xo_if_t c_145 hB
              refine lv_iload_n hx hb d_All_together_62 rfl (lv_at hl 2 rfl) ?_
              refine lv_iconst (v := (1 : Int32)) hx hb d_All_together_63 (by decide) ?_
              refine lv_iload hx hb d_All_together_64 (lv_at hl 3 rfl) ?_
              refine lv_ishl hx hb d_All_together_66 ?_
              refine lv_ior hx hb d_All_together_67 ?_
              refine lv_topi (fun v8 e_v8 => ?_)
              replace hB := xo_nm_u hB e_v8
              clear e_v8
              refine lv_istore_n (lv' := [(3, .int v8), (0, .ref (ad 0)), (2, .int v4), (4, .int w31_4)]) hx hb d_All_together_68 rfl hl (by decide) rfl (fun ls hl => ?_)
              obtain ⟨v9, e_v9, hB⟩ := xo_nm_e hB
              refine lv_iinc (v := v9) (lv' := [(4, .int v9), (3, .int v8), (0, .ref (ad 0)), (2, .int v4)]) hx hb d_All_together_69 hl (k := 3) rfl (by rw [e_v9]; rfl) (by decide) rfl (fun ls hl => ?_)
              clear e_v9
              refine lv_goto (tgt := 31) hx hb d_All_together_72 (by decide) ?_
              have q9 := Option.some.inj hB
              subst q9
              exact ih _ _ _ (xo_elL hL) kx0 _ _ _ hP hS (lv_sub hl [2, 3, 1, 0] rfl)
    obtain ⟨y31, hL31, hF⟩ := xo_ob hF
    refine lp31 1000000 (0 : Int32) (0 : Int32) y31 hL31 ?_ _ _ _ hP hS (lv_sub hl [3, 2, 1, 0] rfl)
    intro o5 ey H locs ls hP hS hl
    subst ey
    refine lv_iload_n hx hb d_All_together_75 rfl (lv_at hl 0 rfl) ?_
    obtain ⟨q8, q9⟩ := xo_s2 hF
    subst q8
    subst q9
    exact hret 76 _ _ _ d_All_together_76 rfl hP hS
  · replace hF := xo_if_t c_142 hF
    refine lv_aload_n hx hb d_All_together_11 rfl (lv_at hl 0 rfl) ?_
    refine lv_iconst (v := (-1 : Int32)) hx hb d_All_together_12 (by decide) ?_
    obtain ⟨v2, t3, h_v2, hF⟩ := xo_ob2 hF
    refine xk_goI (xk_runV (As := [.int (-1 : Int32)]) (rest := []) hx hb hml hown hts hK hE (fun _ h => h) hP hS ok_All_refuse in_All_refuse u_266 (c_All_refuse l D cI cZ ad A adK adV hDw (-1 : Int32) st v2 t3 h_v2) (va_recv hK hP (ci := 3) (q0 := 0) rfl xw_C_at_0) (by decide) rfl hl.1 rfl (Nat.le_of_ble_eq_true rfl) d_All_together_13 ⟨Nat.le_refl _, Nat.le_refl _⟩) (fun _ h => h) hS (fun H locs hP hS => ?_)
    obtain ⟨q8, q9⟩ := xo_s2 hF
    subst q8
    subst q9
    exact hret 16 _ _ _ d_All_together_16 rfl hP hS
set_option maxHeartbeats 4000000 in
set_option maxRecDepth 100000 in
theorem c_All_steps (l : Launch) (D : va_G) (cI cZ : ClassId) (ad : Nat → Nat) (A : Nat → Prop) (adK adV : Nat → Nat) (hDw : ∀ st : XS, va_D A (xw_C ad cI cZ st)) (x1 : Int32) (x2 : Int32) (st : XS) (r9 : Int32) (st9 : XS) (hF : F_All_steps x1 x2 st = some (r9, st9)) : K_I l D cI cZ A adK adV (xw_C ad cI cZ) y_All_steps b_All_steps 5 (some .int) 4 92 [.ref (ad 0), .int x1, .int x2] st r9 st9 := by
  refine xk_startI (by decide) .int rfl (Nat.le_of_ble_eq_true rfl) ?_
  intro p e s m args below meth c Q ls hx hb hml hown hts hK hE hP hS hl hret
  replace hown : s.vm.findClass R_All = some m.cls := hown
  replace hl : lv_has ls 5 [(0, .ref (ad 0)), (1, .int x1), (2, .int x2)] := hl
  unfold F_All_steps at hF
  have mg22 : ∀ (xs : XS), F_All_steps_m22 xs = some (r9, st9) → ∀ (H : Heap) (locs : List Loc) (ls : Array Slot), va_P D classes (xw_C ad cI cZ xs) H → va_S A s.heap H locs → lv_has ls 5 [(0, .ref (ad 0))] → W p l e (xk_rm 4 92) s m args below meth c H locs 0 0 Q (F0 m 22 ls []) := by
    intro xs hF H locs ls hP hS hl
    unfold F_All_steps_m22 at hF
    refine lv_aload_n hx hb d_All_steps_22 rfl (lv_at hl 0 rfl) ?_
    refine lv_iconst (v := (-1 : Int32)) hx hb d_All_steps_23 (by decide) ?_
    obtain ⟨v1, t2, h_v1, hF⟩ := xo_ob2 hF
    refine xk_goI (xk_runV (As := [.int (-1 : Int32)]) (rest := []) hx hb hml hown hts hK hE (fun _ h => h) hP hS ok_All_refuse in_All_refuse u_266 (c_All_refuse l D cI cZ ad A adK adV hDw (-1 : Int32) xs v1 t2 h_v1) (va_recv hK hP (ci := 3) (q0 := 0) rfl xw_C_at_0) (by decide) rfl hl.1 rfl (Nat.le_of_ble_eq_true rfl) d_All_steps_24 ⟨Nat.le_refl _, Nat.le_refl _⟩) (fun _ h => h) hS (fun H locs hP hS => ?_)
    obtain ⟨q8, q9⟩ := xo_s2 hF
    subst q8
    subst q9
    exact hret 27 _ _ _ d_All_steps_27 rfl hP hS
  refine lv_aload_n hx hb d_All_steps_0 rfl (lv_at hl 0 rfl) ?_
  refine xk_get (C := R_All) (T := F_All) (N := 9) hx hb hts i_All hown hK hP 0 xw_C_at_0 rfl 0 (by decide) u_234 rfl d_All_steps_1 ?_
  refine lv_iload_n hx hb d_All_steps_4 rfl (lv_at hl 1 rfl) ?_
  obtain ⟨v3, h_v3, hF⟩ := xo_ob hF
  refine xk_goI (xk_runV (As := [.int x1]) (rest := []) hx hb hml hown hts hK hE (fun _ h => h) hP hS ok_Tow_hasPlot in_Tow_hasPlot u_461 (c_Tow_hasPlot l D cI cZ ad A adK adV hDw x1 st v3 h_v3) (va_recv hK hP (ci := 2) (q0 := 1) rfl xw_C_at_1) (by decide) rfl hl.1 rfl (Nat.le_of_ble_eq_true rfl) d_All_steps_5 ⟨Nat.le_refl _, Nat.le_refl _⟩) (fun _ h => h) hS (fun H locs hP hS => ?_)
  refine lv_if_eq (tgt := 22) hx hb d_All_steps_8 (by decide) (fun c_146 => ?_) (fun c_146 => ?_)
  · replace hF := xo_if_t c_146 hF
    exact mg22 _ hF _ _ _ hP hS (lv_sub hl [0] rfl)
  · replace hF := xo_if_f c_146 hF
    refine lv_aload_n hx hb d_All_steps_11 rfl (lv_at hl 0 rfl) ?_
    refine xk_get (C := R_All) (T := F_All) (N := 9) hx hb hts i_All hown hK hP 0 xw_C_at_0 rfl 0 (by decide) u_234 rfl d_All_steps_12 ?_
    refine lv_iload_n hx hb d_All_steps_15 rfl (lv_at hl 2 rfl) ?_
    obtain ⟨v4, h_v4, hF⟩ := xo_ob hF
    refine xk_goI (xk_runV (As := [.int x2]) (rest := []) hx hb hml hown hts hK hE (fun _ h => h) hP hS ok_Tow_hasPlot in_Tow_hasPlot u_461 (c_Tow_hasPlot l D cI cZ ad A adK adV hDw x2 st v4 h_v4) (va_recv hK hP (ci := 2) (q0 := 1) rfl xw_C_at_1) (by decide) rfl hl.1 rfl (Nat.le_of_ble_eq_true rfl) d_All_steps_16 ⟨Nat.le_refl _, Nat.le_refl _⟩) (fun _ h => h) hS (fun H locs hP hS => ?_)
    refine lv_if_ne (tgt := 28) hx hb d_All_steps_19 (by decide) (fun c_147 => ?_) (fun c_147 => ?_)
    · replace hF := xo_if_f c_147 hF
      refine lv_aload_n hx hb d_All_steps_28 rfl (lv_at hl 0 rfl) ?_
      refine xk_get (C := R_All) (T := F_All) (N := 9) hx hb hts i_All hown hK hP 0 xw_C_at_0 rfl 4 (by decide) u_238 rfl d_All_steps_29 ?_
      refine lv_iload_n hx hb d_All_steps_32 rfl (lv_at hl 1 rfl) ?_
      obtain ⟨v5, h_v5, hF⟩ := xo_ob hF
      refine xk_goI (xk_runV (As := [.int x1]) (rest := []) hx hb hml hown hts hK hE (fun _ h => h) hP hS ok_Pla_quarterOfPlot in_Pla_quarterOfPlot u_547 (c_Pla_quarterOfPlot l D cI cZ ad A adK adV hDw x1 st v5 h_v5) (va_recv hK hP (ci := 1) (q0 := 22) rfl xw_C_at_22) (by decide) rfl hl.1 rfl (Nat.le_of_ble_eq_true rfl) d_All_steps_33 ⟨Nat.le_refl _, Nat.le_refl _⟩) (fun _ h => h) hS (fun H locs hP hS => ?_)
      refine lv_istore_n (lv' := [(3, .int v5), (0, .ref (ad 0)), (1, .int x1), (2, .int x2)]) hx hb d_All_steps_36 rfl hl (by decide) rfl (fun ls hl => ?_)
      refine lv_aload_n hx hb d_All_steps_37 rfl (lv_at hl 1 rfl) ?_
      refine xk_get (C := R_All) (T := F_All) (N := 9) hx hb hts i_All hown hK hP 0 xw_C_at_0 rfl 4 (by decide) u_238 rfl d_All_steps_38 ?_
      refine lv_iload_n hx hb d_All_steps_41 rfl (lv_at hl 3 rfl) ?_
      obtain ⟨v6, h_v6, hF⟩ := xo_ob hF
      refine xk_goI (xk_runV (As := [.int x2]) (rest := []) hx hb hml hown hts hK hE (fun _ h => h) hP hS ok_Pla_quarterOfPlot in_Pla_quarterOfPlot u_547 (c_Pla_quarterOfPlot l D cI cZ ad A adK adV hDw x2 st v6 h_v6) (va_recv hK hP (ci := 1) (q0 := 22) rfl xw_C_at_22) (by decide) rfl hl.1 rfl (Nat.le_of_ble_eq_true rfl) d_All_steps_42 ⟨Nat.le_refl _, Nat.le_refl _⟩) (fun _ h => h) hS (fun H locs hP hS => ?_)
      refine lv_istore (lv' := [(4, .int v6), (3, .int v5), (0, .ref (ad 0)), (1, .int x1), (2, .int x2)]) hx hb d_All_steps_45 hl (by decide) rfl (fun ls hl => ?_)
      refine lv_iload_n hx hb d_All_steps_47 rfl (lv_at hl 1 rfl) ?_
      refine lv_bipush (v := (-9 : Int32)) hx hb d_All_steps_48 (by decide) ?_
      refine lv_icmp_eq (tgt := 60) hx hb d_All_steps_50 (by decide) (fun c_148 => ?_) (fun c_148 => ?_)
      · replace hF := xo_if_t c_148 hF
        refine lv_bipush (v := (-9 : Int32)) hx hb d_All_steps_60 (by decide) ?_
        obtain ⟨q8, q9⟩ := xo_s2 hF
        subst q8
        subst q9
        exact hret 62 _ _ _ d_All_steps_62 rfl hP hS
      · replace hF := xo_if_f c_148 hF
        refine lv_iload hx hb d_All_steps_53 (lv_at hl 0 rfl) ?_
        refine lv_bipush (v := (-9 : Int32)) hx hb d_All_steps_55 (by decide) ?_
        refine lv_icmp_ne (tgt := 63) hx hb d_All_steps_57 (by decide) (fun c_149 => ?_) (fun c_149 => ?_)
        · replace hF := xo_if_f c_149 hF
          refine lv_iload_n hx hb d_All_steps_63 rfl (lv_at hl 1 rfl) ?_
          refine lv_iload hx hb d_All_steps_64 (lv_at hl 0 rfl) ?_
          refine lv_ixor hx hb d_All_steps_66 ?_
          obtain ⟨v7, h_v7, hF⟩ := xo_ob hF
          refine xk_goI (xk_runS (As := [.int (v5 ^^^ v6)]) (rest := []) hx hb hml hown hts hK hE (fun _ h => h) hP hS ok_Int_bitCount st_Int_bitCount u_564 (c_Int_bitCount l D cI cZ (xw_C ad cI cZ) A adK adV (v5 ^^^ v6) st v7 h_v7) (by decide) rfl hl.1 rfl (Nat.le_of_ble_eq_true rfl) d_All_steps_67 ⟨Nat.le_refl _, Nat.le_refl _⟩) (fun _ h => h) hS (fun H locs hP hS => ?_)
          obtain ⟨q8, q9⟩ := xo_s2 hF
          subst q8
          subst q9
          exact hret 70 _ _ _ d_All_steps_70 rfl hP hS
        · replace hF := xo_if_t c_149 hF
          refine lv_bipush (v := (-9 : Int32)) hx hb d_All_steps_60 (by decide) ?_
          obtain ⟨q8, q9⟩ := xo_s2 hF
          subst q8
          subst q9
          exact hret 62 _ _ _ d_All_steps_62 rfl hP hS
    · replace hF := xo_if_t c_147 hF
      exact mg22 _ hF _ _ _ hP hS (lv_sub hl [0] rfl)
set_option maxHeartbeats 4000000 in
set_option maxRecDepth 100000 in
theorem c_All_whyNoLine (l : Launch) (D : va_G) (cI cZ : ClassId) (ad : Nat → Nat) (A : Nat → Prop) (adK adV : Nat → Nat) (hDw : ∀ st : XS, va_D A (xw_C ad cI cZ st)) (x1 : Int32) (x2 : Int32) (x3 : Int32) (st : XS) (r9 : Int32) (hF : F_All_whyNoLine x1 x2 x3 = some r9) : K_I l D cI cZ A adK adV (xw_C ad cI cZ) y_All_whyNoLine b_All_whyNoLine 4 (some .int) 0 0 [.ref (ad 0), .int x1, .int x2, .int x3] st r9 st := by
  refine xk_startI (by decide) .int rfl (Nat.le_of_ble_eq_true rfl) ?_
  intro p e s m args below meth c Q ls hx hb hml hown hts hK hE hP hS hl hret
  replace hown : s.vm.findClass R_All = some m.cls := hown
  replace hl : lv_has ls 4 [(0, .ref (ad 0)), (1, .int x1), (2, .int x2), (3, .int x3)] := hl
  unfold F_All_whyNoLine at hF
  refine lv_iload_n hx hb d_All_whyNoLine_0 rfl (lv_at hl 1 rfl) ?_
  refine lv_bipush (v := (-9 : Int32)) hx hb d_All_whyNoLine_1 (by decide) ?_
  refine lv_icmp_lt (tgt := 18) hx hb d_All_whyNoLine_3 (by decide) (fun c_150 => ?_) (fun c_150 => ?_)
  · replace hF := xo_if_t c_150 hF
    refine lv_bipush (v := (-4 : Int32)) hx hb d_All_whyNoLine_18 (by decide) ?_
    have q9 := Option.some.inj hF
    subst q9
    exact hret 20 _ _ _ d_All_whyNoLine_20 rfl hP hS
  · replace hF := xo_if_f c_150 hF
    refine lv_iload_n hx hb d_All_whyNoLine_6 rfl (lv_at hl 2 rfl) ?_
    refine lv_bipush (v := (-9 : Int32)) hx hb d_All_whyNoLine_7 (by decide) ?_
    refine lv_icmp_lt (tgt := 18) hx hb d_All_whyNoLine_9 (by decide) (fun c_151 => ?_) (fun c_151 => ?_)
    · replace hF := xo_if_t c_151 hF
      refine lv_bipush (v := (-4 : Int32)) hx hb d_All_whyNoLine_18 (by decide) ?_
      have q9 := Option.some.inj hF
      subst q9
      exact hret 20 _ _ _ d_All_whyNoLine_20 rfl hP hS
    · replace hF := xo_if_f c_151 hF
      refine lv_iload_n hx hb d_All_whyNoLine_12 rfl (lv_at hl 3 rfl) ?_
      refine lv_bipush (v := (-99 : Int32)) hx hb d_All_whyNoLine_13 (by decide) ?_
      refine lv_icmp_ge (tgt := 21) hx hb d_All_whyNoLine_15 (by decide) (fun c_152 => ?_) (fun c_152 => ?_)
      · replace hF := xo_if_t c_152 hF
        refine lv_iload_n hx hb d_All_whyNoLine_21 rfl (lv_at hl 1 rfl) ?_
        refine lv_bipush (v := (9 : Int32)) hx hb d_All_whyNoLine_22 (by decide) ?_
        refine lv_icmp_gt (tgt := 39) hx hb d_All_whyNoLine_24 (by decide) (fun c_153 => ?_) (fun c_153 => ?_)
        · replace hF := xo_if_t c_153 hF
          refine lv_bipush (v := (-6 : Int32)) hx hb d_All_whyNoLine_39 (by decide) ?_
          have q9 := Option.some.inj hF
          subst q9
          exact hret 41 _ _ _ d_All_whyNoLine_41 rfl hP hS
        · replace hF := xo_if_f c_153 hF
          refine lv_iload_n hx hb d_All_whyNoLine_27 rfl (lv_at hl 2 rfl) ?_
          refine lv_bipush (v := (9 : Int32)) hx hb d_All_whyNoLine_28 (by decide) ?_
          refine lv_icmp_gt (tgt := 39) hx hb d_All_whyNoLine_30 (by decide) (fun c_154 => ?_) (fun c_154 => ?_)
          · replace hF := xo_if_t c_154 hF
            refine lv_bipush (v := (-6 : Int32)) hx hb d_All_whyNoLine_39 (by decide) ?_
            have q9 := Option.some.inj hF
            subst q9
            exact hret 41 _ _ _ d_All_whyNoLine_41 rfl hP hS
          · replace hF := xo_if_f c_154 hF
            refine lv_iload_n hx hb d_All_whyNoLine_33 rfl (lv_at hl 3 rfl) ?_
            refine lv_bipush (v := (99 : Int32)) hx hb d_All_whyNoLine_34 (by decide) ?_
            refine lv_icmp_le (tgt := 42) hx hb d_All_whyNoLine_36 (by decide) (fun c_155 => ?_) (fun c_155 => ?_)
            · replace hF := xo_if_t c_155 hF
              refine lv_iload_n hx hb d_All_whyNoLine_42 rfl (lv_at hl 1 rfl) ?_
              refine lv_if_ne (tgt := 55) hx hb d_All_whyNoLine_43 (by decide) (fun c_156 => ?_) (fun c_156 => ?_)
              · replace hF := xo_if_f c_156 hF
                refine lv_iconst (v := (0 : Int32)) hx hb d_All_whyNoLine_55 (by decide) ?_
                have q9 := Option.some.inj hF
                subst q9
                exact hret 56 _ _ _ d_All_whyNoLine_56 rfl hP hS
              · replace hF := xo_if_t c_156 hF
                refine lv_iload_n hx hb d_All_whyNoLine_46 rfl (lv_at hl 2 rfl) ?_
                refine lv_if_ne (tgt := 55) hx hb d_All_whyNoLine_47 (by decide) (fun c_157 => ?_) (fun c_157 => ?_)
                · replace hF := xo_if_f c_157 hF
                  refine lv_iconst (v := (0 : Int32)) hx hb d_All_whyNoLine_55 (by decide) ?_
                  have q9 := Option.some.inj hF
                  subst q9
                  exact hret 56 _ _ _ d_All_whyNoLine_56 rfl hP hS
                · replace hF := xo_if_t c_157 hF
                  refine lv_bipush (v := (-3 : Int32)) hx hb d_All_whyNoLine_50 (by decide) ?_
                  refine lv_goto (tgt := 56) hx hb d_All_whyNoLine_52 (by decide) ?_
                  have q9 := Option.some.inj hF
                  subst q9
                  exact hret 56 _ _ _ d_All_whyNoLine_56 rfl hP hS
            · replace hF := xo_if_f c_155 hF
              refine lv_bipush (v := (-6 : Int32)) hx hb d_All_whyNoLine_39 (by decide) ?_
              have q9 := Option.some.inj hF
              subst q9
              exact hret 41 _ _ _ d_All_whyNoLine_41 rfl hP hS
      · replace hF := xo_if_f c_152 hF
        refine lv_bipush (v := (-4 : Int32)) hx hb d_All_whyNoLine_18 (by decide) ?_
        have q9 := Option.some.inj hF
        subst q9
        exact hret 20 _ _ _ d_All_whyNoLine_20 rfl hP hS
set_option maxHeartbeats 4000000 in
set_option maxRecDepth 100000 in
theorem c_All_whyNoNewLine (l : Launch) (D : va_G) (cI cZ : ClassId) (ad : Nat → Nat) (A : Nat → Prop) (adK adV : Nat → Nat) (hDw : ∀ st : XS, va_D A (xw_C ad cI cZ st)) (x1 : Int32) (x2 : Int32) (x3 : Int32) (st : XS) (r9 : Int32) (hF : F_All_whyNoNewLine x1 x2 x3 st = some r9) : K_I l D cI cZ A adK adV (xw_C ad cI cZ) y_All_whyNoNewLine b_All_whyNoNewLine 5 (some .int) 2 46 [.ref (ad 0), .int x1, .int x2, .int x3] st r9 st := by
  refine xk_startI (by decide) .int rfl (Nat.le_of_ble_eq_true rfl) ?_
  intro p e s m args below meth c Q ls hx hb hml hown hts hK hE hP hS hl hret
  replace hown : s.vm.findClass R_All = some m.cls := hown
  replace hl : lv_has ls 5 [(0, .ref (ad 0)), (1, .int x1), (2, .int x2), (3, .int x3)] := hl
  unfold F_All_whyNoNewLine at hF
  refine lv_aload_n hx hb d_All_whyNoNewLine_0 rfl (lv_at hl 0 rfl) ?_
  refine lv_iload_n hx hb d_All_whyNoNewLine_1 rfl (lv_at hl 1 rfl) ?_
  refine lv_iload_n hx hb d_All_whyNoNewLine_2 rfl (lv_at hl 2 rfl) ?_
  refine lv_iload_n hx hb d_All_whyNoNewLine_3 rfl (lv_at hl 3 rfl) ?_
  obtain ⟨v1, h_v1, hF⟩ := xo_ob hF
  refine xk_goI (xk_runV (As := [.int x1, .int x2, .int x3]) (rest := []) hx hb hml hown hts hK hE (fun _ h => h) hP hS ok_All_whyNoLine in_All_whyNoLine u_573 (c_All_whyNoLine l D cI cZ ad A adK adV hDw x1 x2 x3 st v1 h_v1) (va_recv hK hP (ci := 3) (q0 := 0) rfl xw_C_at_0) (by decide) rfl hl.1 rfl (Nat.le_of_ble_eq_true rfl) d_All_whyNoNewLine_4 ⟨Nat.le_refl _, Nat.le_refl _⟩) (fun _ h => h) hS (fun H locs hP hS => ?_)
  refine lv_istore (lv' := [(4, .int v1), (0, .ref (ad 0)), (1, .int x1), (2, .int x2), (3, .int x3)]) hx hb d_All_whyNoNewLine_7 hl (by decide) rfl (fun ls hl => ?_)
  refine lv_iload hx hb d_All_whyNoNewLine_9 (lv_at hl 0 rfl) ?_
  refine lv_if_ne (tgt := 29) hx hb d_All_whyNoNewLine_11 (by decide) (fun c_160 => ?_) (fun c_160 => ?_)
  · replace hF := xo_if_f c_160 hF
    refine lv_iload hx hb d_All_whyNoNewLine_29 (lv_at hl 0 rfl) ?_
    have q9 := Option.some.inj hF
    subst q9
    exact hret 31 _ _ _ d_All_whyNoNewLine_31 rfl hP hS
  · replace hF := xo_if_t c_160 hF
    refine lv_aload_n hx hb d_All_whyNoNewLine_14 rfl (lv_at hl 1 rfl) ?_
    refine xk_get (C := R_All) (T := F_All) (N := 9) hx hb hts i_All hown hK hP 0 xw_C_at_0 rfl 0 (by decide) u_234 rfl d_All_whyNoNewLine_15 ?_
    refine lv_iload_n hx hb d_All_whyNoNewLine_18 rfl (lv_at hl 2 rfl) ?_
    refine lv_iload_n hx hb d_All_whyNoNewLine_19 rfl (lv_at hl 3 rfl) ?_
    obtain ⟨v2, h_v2, hF⟩ := xo_ob hF
    refine xk_goI (xk_runV (As := [.int x1, .int x2]) (rest := []) hx hb hml hown hts hK hE (fun _ h => h) hP hS ok_Tow_hasDirection in_Tow_hasDirection u_577 (c_Tow_hasDirection_v1 l D cI cZ ad A adK adV hDw x1 x2 st v2 h_v2) (va_recv hK hP (ci := 2) (q0 := 1) rfl xw_C_at_1) (by decide) rfl hl.1 rfl (Nat.le_of_ble_eq_true rfl) d_All_whyNoNewLine_20 ⟨Nat.le_refl _, Nat.le_refl _⟩) (fun _ h => h) hS (fun H locs hP hS => ?_)
    refine lv_if_eq (tgt := 29) hx hb d_All_whyNoNewLine_23 (by decide) (fun c_161 => ?_) (fun c_161 => ?_)
    · replace hF := xo_if_t c_161 hF
      refine lv_iload hx hb d_All_whyNoNewLine_29 (lv_at hl 0 rfl) ?_
      have q9 := Option.some.inj hF
      subst q9
      exact hret 31 _ _ _ d_All_whyNoNewLine_31 rfl hP hS
    · replace hF := xo_if_f c_161 hF
      refine lv_bipush (v := (-3 : Int32)) hx hb d_All_whyNoNewLine_26 (by decide) ?_
      have q9 := Option.some.inj hF
      subst q9
      exact hret 28 _ _ _ d_All_whyNoNewLine_28 rfl hP hS
set_option maxHeartbeats 4000000 in
set_option maxRecDepth 100000 in
theorem c_All_next (l : Launch) (D : va_G) (cI cZ : ClassId) (ad : Nat → Nat) (A : Nat → Prop) (adK adV : Nat → Nat) (hDw : ∀ st : XS, va_D A (xw_C ad cI cZ st)) (x1 : Int32) (x2 : Int32) (x3 : Int32) (x4 : Int32) (st : XS) (r9 : Int32) (st9 : XS) (hF : F_All_next x1 x2 x3 x4 st = some (r9, st9)) : K_I l D cI cZ A adK adV (xw_C ad cI cZ) y_All_next b_All_next 7 (some .int) 4 92 [.ref (ad 0), .int x1, .int x2, .int x3, .int x4] st r9 st9 := by
  refine xk_startI (by decide) .int rfl (Nat.le_of_ble_eq_true rfl) ?_
  intro p e s m args below meth c Q ls hx hb hml hown hts hK hE hP hS hl hret
  replace hown : s.vm.findClass R_All = some m.cls := hown
  replace hl : lv_has ls 7 [(0, .ref (ad 0)), (1, .int x1), (2, .int x2), (3, .int x3), (4, .int x4)] := hl
  unfold F_All_next at hF
  have mg24 : ∀ (x1 : Int32) (x2 : Int32) (x3 : Int32) (x4 : Int32) (xs : XS), F_All_next_m24 x1 x2 x3 x4 xs = some (r9, st9) → ∀ (H : Heap) (locs : List Loc) (ls : Array Slot), va_P D classes (xw_C ad cI cZ xs) H → va_S A s.heap H locs → lv_has ls 7 [(0, .ref (ad 0)), (1, .int x1), (2, .int x2), (3, .int x3), (4, .int x4)] → W p l e (xk_rm 4 92) s m args below meth c H locs 0 0 Q (F0 m 24 ls []) := by
    intro x1 x2 x3 x4 xs hF H locs ls hP hS hl
    unfold F_All_next_m24 at hF
    refine lv_aload_n hx hb d_All_next_24 rfl (lv_at hl 0 rfl) ?_
    refine lv_iload_n hx hb d_All_next_25 rfl (lv_at hl 1 rfl) ?_
    refine lv_iload_n hx hb d_All_next_26 rfl (lv_at hl 2 rfl) ?_
    refine lv_iload_n hx hb d_All_next_27 rfl (lv_at hl 3 rfl) ?_
    obtain ⟨v1, h_v1, hF⟩ := xo_ob hF
    refine xk_goI (xk_runV (As := [.int x1, .int x2, .int x3]) (rest := []) hx hb hml hown hts hK hE (fun _ h => h) hP hS ok_All_whyNoNewLine in_All_whyNoNewLine u_569 (c_All_whyNoNewLine l D cI cZ ad A adK adV hDw x1 x2 x3 xs v1 h_v1) (va_recv hK hP (ci := 3) (q0 := 0) rfl xw_C_at_0) (by decide) rfl hl.1 rfl (Nat.le_of_ble_eq_true rfl) d_All_next_28 ⟨Nat.le_refl _, Nat.le_refl _⟩) (fun _ h => h) hS (fun H locs hP hS => ?_)
    refine lv_istore (lv' := [(5, .int v1), (0, .ref (ad 0)), (1, .int x1), (2, .int x2), (3, .int x3), (4, .int x4)]) hx hb d_All_next_31 hl (by decide) rfl (fun ls hl => ?_)
    refine lv_iload hx hb d_All_next_33 (lv_at hl 0 rfl) ?_
    refine lv_if_eq (tgt := 45) hx hb d_All_next_35 (by decide) (fun c_162 => ?_) (fun c_162 => ?_)
    · replace hF := xo_if_t c_162 hF
      refine lv_iload hx hb d_All_next_45 (lv_at hl 5 rfl) ?_
      refine lv_iconst (v := (-1 : Int32)) hx hb d_All_next_47 (by decide) ?_
      refine lv_icmp_ne (tgt := 65) hx hb d_All_next_48 (by decide) (fun c_163 => ?_) (fun c_163 => ?_)
      · replace hF := xo_if_f c_163 hF
        refine lv_aload_n hx hb d_All_next_65 rfl (lv_at hl 1 rfl) ?_
        refine xk_get (C := R_All) (T := F_All) (N := 9) hx hb hts i_All hown hK hP 0 xw_C_at_0 rfl 4 (by decide) u_238 rfl d_All_next_66 ?_
        refine lv_iload hx hb d_All_next_69 (lv_at hl 5 rfl) ?_
        obtain ⟨v4, h_v4, hF⟩ := xo_ob hF
        refine xk_goI (xk_runV (As := [.int x4]) (rest := []) hx hb hml hown hts hK hE (fun _ h => h) hP hS ok_Pla_quarterOfPlot in_Pla_quarterOfPlot u_547 (c_Pla_quarterOfPlot l D cI cZ ad A adK adV hDw x4 xs v4 h_v4) (va_recv hK hP (ci := 1) (q0 := 22) rfl xw_C_at_22) (by decide) rfl hl.1 rfl (Nat.le_of_ble_eq_true rfl) d_All_next_71 ⟨Nat.le_refl _, Nat.le_refl _⟩) (fun _ h => h) hS (fun H locs hP hS => ?_)
        refine lv_istore (lv' := [(6, .int v4), (5, .int v1), (0, .ref (ad 0)), (1, .int x1), (2, .int x2), (3, .int x3), (4, .int x4)]) hx hb d_All_next_74 hl (by decide) rfl (fun ls hl => ?_)
        refine lv_iload hx hb d_All_next_76 (lv_at hl 0 rfl) ?_
        refine lv_bipush (v := (-9 : Int32)) hx hb d_All_next_78 (by decide) ?_
        refine lv_icmp_ne (tgt := 86) hx hb d_All_next_80 (by decide) (fun c_164 => ?_) (fun c_164 => ?_)
        · replace hF := xo_if_f c_164 hF
          refine lv_aload_n hx hb d_All_next_86 rfl (lv_at hl 2 rfl) ?_
          refine xk_get (C := R_All) (T := F_All) (N := 9) hx hb hts i_All hown hK hP 0 xw_C_at_0 rfl 4 (by decide) u_238 rfl d_All_next_87 ?_
          refine lv_iload_n hx hb d_All_next_90 rfl (lv_at hl 3 rfl) ?_
          refine lv_iload_n hx hb d_All_next_91 rfl (lv_at hl 4 rfl) ?_
          refine lv_iload_n hx hb d_All_next_92 rfl (lv_at hl 5 rfl) ?_
          obtain ⟨v5, h_v5, hF⟩ := xo_ob hF
          refine xk_goL (xk_runV (As := [.int x1, .int x2, .int x3]) (rest := []) hx hb hml hown hts hK hE (fun _ h => h) hP hS ok_Pla_cutBy in_Pla_cutBy u_578 (c_Pla_cutBy l D cI cZ ad A adK adV hDw x1 x2 x3 xs v5 h_v5) (va_recv hK hP (ci := 1) (q0 := 22) rfl xw_C_at_22) (by decide) rfl hl.1 rfl (Nat.le_of_ble_eq_true rfl) d_All_next_93 ⟨Nat.le_refl _, Nat.le_refl _⟩) (fun _ h => h) hS (fun H locs hP hS => ?_)
          refine lv_iload hx hb d_All_next_96 (lv_at hl 0 rfl) ?_
          obtain ⟨v6, h_v6, hF⟩ := xo_ob hF
          refine xk_goI (xk_runS (As := [.long v5, .int v4]) (rest := []) hx hb hml hown hts hK hE (fun _ h => h) hP hS ok_All_has st_All_has u_521 (c_All_has l D cI cZ ad A adK adV hDw v5 v4 xs v6 h_v6) (by decide) rfl hl.1 rfl (Nat.le_of_ble_eq_true rfl) d_All_next_98 ⟨Nat.le_refl _, Nat.le_refl _⟩) (fun _ h => h) hS (fun H locs hP hS => ?_)
          refine lv_if_eq (tgt := 108) hx hb d_All_next_101 (by decide) (fun c_165 => ?_) (fun c_165 => ?_)
          · replace hF := xo_if_t c_165 hF
            refine lv_iconst (v := (0 : Int32)) hx hb d_All_next_108 (by decide) ?_
            obtain ⟨q8, q9⟩ := xo_s2 hF
            subst q8
            subst q9
            exact hret 109 _ _ _ d_All_next_109 rfl hP hS
          · replace hF := xo_if_f c_165 hF
            refine lv_iconst (v := (1 : Int32)) hx hb d_All_next_104 (by decide) ?_
            refine lv_goto (tgt := 109) hx hb d_All_next_105 (by decide) ?_
            obtain ⟨q8, q9⟩ := xo_s2 hF
            subst q8
            subst q9
            exact hret 109 _ _ _ d_All_next_109 rfl hP hS
        · replace hF := xo_if_t c_164 hF
          refine lv_bipush (v := (-9 : Int32)) hx hb d_All_next_83 (by decide) ?_
          obtain ⟨q8, q9⟩ := xo_s2 hF
          subst q8
          subst q9
          exact hret 85 _ _ _ d_All_next_85 rfl hP hS
      · replace hF := xo_if_t c_163 hF
        refine lv_aload_n hx hb d_All_next_51 rfl (lv_at hl 1 rfl) ?_
        refine xk_get (C := R_All) (T := F_All) (N := 9) hx hb hts i_All hown hK hP 0 xw_C_at_0 rfl 4 (by decide) u_238 rfl d_All_next_52 ?_
        refine lv_iload_n hx hb d_All_next_55 rfl (lv_at hl 2 rfl) ?_
        refine lv_iload_n hx hb d_All_next_56 rfl (lv_at hl 3 rfl) ?_
        refine lv_iload_n hx hb d_All_next_57 rfl (lv_at hl 4 rfl) ?_
        obtain ⟨v2, h_v2, hF⟩ := xo_ob hF
        refine xk_goL (xk_runV (As := [.int x1, .int x2, .int x3]) (rest := []) hx hb hml hown hts hK hE (fun _ h => h) hP hS ok_Pla_cutBy in_Pla_cutBy u_578 (c_Pla_cutBy l D cI cZ ad A adK adV hDw x1 x2 x3 xs v2 h_v2) (va_recv hK hP (ci := 1) (q0 := 22) rfl xw_C_at_22) (by decide) rfl hl.1 rfl (Nat.le_of_ble_eq_true rfl) d_All_next_58 ⟨Nat.le_refl _, Nat.le_refl _⟩) (fun _ h => h) hS (fun H locs hP hS => ?_)
        obtain ⟨v3, h_v3, hF⟩ := xo_ob hF
        refine xk_goI (xk_runS (As := [.long v2]) (rest := []) hx hb hml hown hts hK hE (fun _ h => h) hP hS ok_Lng_bitCount st_Lng_bitCount u_479 (c_Lng_bitCount l D cI cZ (xw_C ad cI cZ) A adK adV v2 xs v3 h_v3) (by decide) rfl hl.1 rfl (Nat.le_of_ble_eq_true rfl) d_All_next_61 ⟨Nat.le_refl _, Nat.le_refl _⟩) (fun _ h => h) hS (fun H locs hP hS => ?_)
        obtain ⟨q8, q9⟩ := xo_s2 hF
        subst q8
        subst q9
        exact hret 64 _ _ _ d_All_next_64 rfl hP hS
    · replace hF := xo_if_f c_162 hF
      refine lv_aload_n hx hb d_All_next_38 rfl (lv_at hl 1 rfl) ?_
      refine lv_iload hx hb d_All_next_39 (lv_at hl 0 rfl) ?_
      obtain ⟨v7, t8, h_v7, hF⟩ := xo_ob2 hF
      refine xk_goI (xk_runV (As := [.int v1]) (rest := []) hx hb hml hown hts hK hE (fun _ h => h) hP hS ok_All_refuse in_All_refuse u_266 (c_All_refuse l D cI cZ ad A adK adV hDw v1 xs v7 t8 h_v7) (va_recv hK hP (ci := 3) (q0 := 0) rfl xw_C_at_0) (by decide) rfl hl.1 rfl (Nat.le_of_ble_eq_true rfl) d_All_next_41 ⟨Nat.le_refl _, Nat.le_refl _⟩) (fun _ h => h) hS (fun H locs hP hS => ?_)
      obtain ⟨q8, q9⟩ := xo_s2 hF
      subst q8
      subst q9
      exact hret 44 _ _ _ d_All_next_44 rfl hP hS
  refine lv_iload hx hb d_All_next_0 (lv_at hl 4 rfl) ?_
  refine lv_iconst (v := (-1 : Int32)) hx hb d_All_next_2 (by decide) ?_
  refine lv_icmp_eq (tgt := 24) hx hb d_All_next_3 (by decide) (fun c_166 => ?_) (fun c_166 => ?_)
  · replace hF := xo_if_t c_166 hF
    exact mg24 _ _ _ _ _ hF _ _ _ hP hS (lv_sub hl [0, 1, 2, 3, 4] rfl)
  · replace hF := xo_if_f c_166 hF
    refine lv_aload_n hx hb d_All_next_6 rfl (lv_at hl 0 rfl) ?_
    refine xk_get (C := R_All) (T := F_All) (N := 9) hx hb hts i_All hown hK hP 0 xw_C_at_0 rfl 0 (by decide) u_234 rfl d_All_next_7 ?_
    refine lv_iload hx hb d_All_next_10 (lv_at hl 4 rfl) ?_
    obtain ⟨v9, h_v9, hF⟩ := xo_ob hF
    refine xk_goI (xk_runV (As := [.int x4]) (rest := []) hx hb hml hown hts hK hE (fun _ h => h) hP hS ok_Tow_hasPlot in_Tow_hasPlot u_461 (c_Tow_hasPlot l D cI cZ ad A adK adV hDw x4 st v9 h_v9) (va_recv hK hP (ci := 2) (q0 := 1) rfl xw_C_at_1) (by decide) rfl hl.1 rfl (Nat.le_of_ble_eq_true rfl) d_All_next_12 ⟨Nat.le_refl _, Nat.le_refl _⟩) (fun _ h => h) hS (fun H locs hP hS => ?_)
    refine lv_if_ne (tgt := 24) hx hb d_All_next_15 (by decide) (fun c_167 => ?_) (fun c_167 => ?_)
    · replace hF := xo_if_f c_167 hF
      exact mg24 _ _ _ _ _ hF _ _ _ hP hS (lv_sub hl [0, 1, 2, 3, 4] rfl)
    · replace hF := xo_if_t c_167 hF
      refine lv_aload_n hx hb d_All_next_18 rfl (lv_at hl 0 rfl) ?_
      refine lv_iconst (v := (-1 : Int32)) hx hb d_All_next_19 (by decide) ?_
      obtain ⟨v10, t11, h_v10, hF⟩ := xo_ob2 hF
      refine xk_goI (xk_runV (As := [.int (-1 : Int32)]) (rest := []) hx hb hml hown hts hK hE (fun _ h => h) hP hS ok_All_refuse in_All_refuse u_266 (c_All_refuse l D cI cZ ad A adK adV hDw (-1 : Int32) st v10 t11 h_v10) (va_recv hK hP (ci := 3) (q0 := 0) rfl xw_C_at_0) (by decide) rfl hl.1 rfl (Nat.le_of_ble_eq_true rfl) d_All_next_20 ⟨Nat.le_refl _, Nat.le_refl _⟩) (fun _ h => h) hS (fun H locs hP hS => ?_)
      obtain ⟨q8, q9⟩ := xo_s2 hF
      subst q8
      subst q9
      exact hret 23 _ _ _ d_All_next_23 rfl hP hS
set_option maxHeartbeats 4000000 in
set_option maxRecDepth 100000 in
theorem c_All_through (l : Launch) (D : va_G) (cI cZ : ClassId) (ad : Nat → Nat) (A : Nat → Prop) (adK adV : Nat → Nat) (hDw : ∀ st : XS, va_D A (xw_C ad cI cZ st)) (x1 : Int32) (x2 : Int32) (x3 : Int32) (st : XS) (r9 : Int32) (st9 : XS) (hF : F_All_through x1 x2 x3 st = some (r9, st9)) : K_I l D cI cZ A adK adV (xw_C ad cI cZ) y_All_through b_All_through 5 (some .int) 2 43 [.ref (ad 0), .int x1, .int x2, .int x3] st r9 st9 := by
  refine xk_startI (by decide) .int rfl (Nat.le_of_ble_eq_true rfl) ?_
  intro p e s m args below meth c Q ls hx hb hml hown hts hK hE hP hS hl hret
  replace hown : s.vm.findClass R_All = some m.cls := hown
  replace hl : lv_has ls 5 [(0, .ref (ad 0)), (1, .int x1), (2, .int x2), (3, .int x3)] := hl
  unfold F_All_through at hF
  refine lv_aload_n hx hb d_All_through_0 rfl (lv_at hl 0 rfl) ?_
  refine xk_get (C := R_All) (T := F_All) (N := 9) hx hb hts i_All hown hK hP 0 xw_C_at_0 rfl 0 (by decide) u_234 rfl d_All_through_1 ?_
  refine lv_iload_n hx hb d_All_through_4 rfl (lv_at hl 3 rfl) ?_
  obtain ⟨v1, h_v1, hF⟩ := xo_ob hF
  refine xk_goI (xk_runV (As := [.int x3]) (rest := []) hx hb hml hown hts hK hE (fun _ h => h) hP hS ok_Tow_hasPlot in_Tow_hasPlot u_461 (c_Tow_hasPlot l D cI cZ ad A adK adV hDw x3 st v1 h_v1) (va_recv hK hP (ci := 2) (q0 := 1) rfl xw_C_at_1) (by decide) rfl hl.1 rfl (Nat.le_of_ble_eq_true rfl) d_All_through_5 ⟨Nat.le_refl _, Nat.le_refl _⟩) (fun _ h => h) hS (fun H locs hP hS => ?_)
  refine lv_if_ne (tgt := 17) hx hb d_All_through_8 (by decide) (fun c_168 => ?_) (fun c_168 => ?_)
  · replace hF := xo_if_f c_168 hF
    refine lv_aload_n hx hb d_All_through_17 rfl (lv_at hl 0 rfl) ?_
    refine lv_iload_n hx hb d_All_through_18 rfl (lv_at hl 1 rfl) ?_
    refine lv_iload_n hx hb d_All_through_19 rfl (lv_at hl 2 rfl) ?_
    refine lv_iconst (v := (0 : Int32)) hx hb d_All_through_20 (by decide) ?_
    obtain ⟨v4, h_v4, hF⟩ := xo_ob hF
    refine xk_goI (xk_runV (As := [.int x1, .int x2, .int (0 : Int32)]) (rest := []) hx hb hml hown hts hK hE (fun _ h => h) hP hS ok_All_whyNoLine in_All_whyNoLine u_573 (c_All_whyNoLine l D cI cZ ad A adK adV hDw x1 x2 (0 : Int32) st v4 h_v4) (va_recv hK hP (ci := 3) (q0 := 0) rfl xw_C_at_0) (by decide) rfl hl.1 rfl (Nat.le_of_ble_eq_true rfl) d_All_through_21 ⟨Nat.le_refl _, Nat.le_refl _⟩) (fun _ h => h) hS (fun H locs hP hS => ?_)
    refine lv_istore (lv' := [(4, .int v4), (0, .ref (ad 0)), (1, .int x1), (2, .int x2), (3, .int x3)]) hx hb d_All_through_24 hl (by decide) rfl (fun ls hl => ?_)
    refine lv_iload hx hb d_All_through_26 (lv_at hl 0 rfl) ?_
    refine lv_if_eq (tgt := 38) hx hb d_All_through_28 (by decide) (fun c_169 => ?_) (fun c_169 => ?_)
    · replace hF := xo_if_t c_169 hF
      refine lv_iload_n hx hb d_All_through_38 rfl (lv_at hl 2 rfl) ?_
      refine lv_aload_n hx hb d_All_through_39 rfl (lv_at hl 1 rfl) ?_
      refine xk_get (C := R_All) (T := F_All) (N := 9) hx hb hts i_All hown hK hP 0 xw_C_at_0 rfl 0 (by decide) u_234 rfl d_All_through_40 ?_
      refine xk_get (C := R_Tow) (T := F_Tow) (N := 8) hx hb hts i_Tow hown hK hP 1 xw_C_at_1 rfl 5 (by decide) u_93 rfl d_All_through_43 ?_
      refine lv_iload_n hx hb d_All_through_46 rfl (lv_at hl 4 rfl) ?_
      obtain ⟨v5, h_v5, hF⟩ := xo_ob hF
      refine xk_iald hx hb hK hP 6 xw_C_at_6 h_v5 d_All_through_47 ?_
      refine lv_imul hx hb d_All_through_48 ?_
      refine lv_iload_n hx hb d_All_through_49 rfl (lv_at hl 3 rfl) ?_
      refine lv_aload_n hx hb d_All_through_50 rfl (lv_at hl 1 rfl) ?_
      refine xk_get (C := R_All) (T := F_All) (N := 9) hx hb hts i_All hown hK hP 0 xw_C_at_0 rfl 0 (by decide) u_234 rfl d_All_through_51 ?_
      refine xk_get (C := R_Tow) (T := F_Tow) (N := 8) hx hb hts i_Tow hown hK hP 1 xw_C_at_1 rfl 6 (by decide) u_96 rfl d_All_through_54 ?_
      refine lv_iload_n hx hb d_All_through_57 rfl (lv_at hl 4 rfl) ?_
      obtain ⟨v6, h_v6, hF⟩ := xo_ob hF
      refine xk_iald hx hb hK hP 7 xw_C_at_7 h_v6 d_All_through_58 ?_
      refine lv_imul hx hb d_All_through_59 ?_
      refine lv_iadd hx hb d_All_through_60 ?_
      obtain ⟨q8, q9⟩ := xo_s2 hF
      subst q8
      subst q9
      exact hret 61 _ _ _ d_All_through_61 rfl hP hS
    · replace hF := xo_if_f c_169 hF
      refine lv_aload_n hx hb d_All_through_31 rfl (lv_at hl 1 rfl) ?_
      refine lv_iload hx hb d_All_through_32 (lv_at hl 0 rfl) ?_
      obtain ⟨v7, t8, h_v7, hF⟩ := xo_ob2 hF
      refine xk_goI (xk_runV (As := [.int v4]) (rest := []) hx hb hml hown hts hK hE (fun _ h => h) hP hS ok_All_refuseFar in_All_refuseFar u_434 (c_All_refuseFar l D cI cZ ad A adK adV hDw v4 st v7 t8 h_v7) (va_recv hK hP (ci := 3) (q0 := 0) rfl xw_C_at_0) (by decide) rfl hl.1 rfl (Nat.le_of_ble_eq_true rfl) d_All_through_34 ⟨Nat.le_refl _, Nat.le_refl _⟩) (fun _ h => h) hS (fun H locs hP hS => ?_)
      obtain ⟨q8, q9⟩ := xo_s2 hF
      subst q8
      subst q9
      exact hret 37 _ _ _ d_All_through_37 rfl hP hS
  · replace hF := xo_if_t c_168 hF
    refine lv_aload_n hx hb d_All_through_11 rfl (lv_at hl 0 rfl) ?_
    refine lv_iconst (v := (-1 : Int32)) hx hb d_All_through_12 (by decide) ?_
    obtain ⟨v2, t3, h_v2, hF⟩ := xo_ob2 hF
    refine xk_goI (xk_runV (As := [.int (-1 : Int32)]) (rest := []) hx hb hml hown hts hK hE (fun _ h => h) hP hS ok_All_refuseFar in_All_refuseFar u_434 (c_All_refuseFar l D cI cZ ad A adK adV hDw (-1 : Int32) st v2 t3 h_v2) (va_recv hK hP (ci := 3) (q0 := 0) rfl xw_C_at_0) (by decide) rfl hl.1 rfl (Nat.le_of_ble_eq_true rfl) d_All_through_13 ⟨Nat.le_refl _, Nat.le_refl _⟩) (fun _ h => h) hS (fun H locs hP hS => ?_)
    obtain ⟨q8, q9⟩ := xo_s2 hF
    subst q8
    subst q9
    exact hret 16 _ _ _ d_All_through_16 rfl hP hS
set_option maxHeartbeats 4000000 in
set_option maxRecDepth 100000 in
theorem c_All_spare (l : Launch) (D : va_G) (cI cZ : ClassId) (ad : Nat → Nat) (A : Nat → Prop) (adK adV : Nat → Nat) (hDw : ∀ st : XS, va_D A (xw_C ad cI cZ st)) (x1 : Int32) (x2 : Int32) (st : XS) (r9 : Int32) (st9 : XS) (hF : F_All_spare x1 x2 st = some (r9, st9)) : K_I l D cI cZ A adK adV (xw_C ad cI cZ) y_All_spare b_All_spare 7 (some .int) 5 116 [.ref (ad 0), .int x1, .int x2] st r9 st9 := by
  refine xk_startI (by decide) .int rfl (Nat.le_of_ble_eq_true rfl) ?_
  intro p e s m args below meth c Q ls hx hb hml hown hts hK hE hP hS hl hret
  replace hown : s.vm.findClass R_All = some m.cls := hown
  replace hl : lv_has ls 7 [(0, .ref (ad 0)), (1, .int x1), (2, .int x2)] := hl
  unfold F_All_spare at hF
  refine lv_aload_n hx hb d_All_spare_0 rfl (lv_at hl 0 rfl) ?_
  refine lv_iload_n hx hb d_All_spare_1 rfl (lv_at hl 1 rfl) ?_
  refine lv_iload_n hx hb d_All_spare_2 rfl (lv_at hl 2 rfl) ?_
  refine lv_iconst (v := (0 : Int32)) hx hb d_All_spare_3 (by decide) ?_
  obtain ⟨v1, h_v1, hF⟩ := xo_ob hF
  refine xk_goI (xk_runV (As := [.int x1, .int x2, .int (0 : Int32)]) (rest := []) hx hb hml hown hts hK hE (fun _ h => h) hP hS ok_All_whyNoNewLine in_All_whyNoNewLine u_569 (c_All_whyNoNewLine l D cI cZ ad A adK adV hDw x1 x2 (0 : Int32) st v1 h_v1) (va_recv hK hP (ci := 3) (q0 := 0) rfl xw_C_at_0) (by decide) rfl hl.1 rfl (Nat.le_of_ble_eq_true rfl) d_All_spare_4 ⟨Nat.le_refl _, Nat.le_refl _⟩) (fun _ h => h) hS (fun H locs hP hS => ?_)
  refine lv_istore_n (lv' := [(3, .int v1), (0, .ref (ad 0)), (1, .int x1), (2, .int x2)]) hx hb d_All_spare_7 rfl hl (by decide) rfl (fun ls hl => ?_)
  refine lv_iload_n hx hb d_All_spare_8 rfl (lv_at hl 0 rfl) ?_
  refine lv_if_eq (tgt := 18) hx hb d_All_spare_9 (by decide) (fun c_174 => ?_) (fun c_174 => ?_)
  · replace hF := xo_if_t c_174 hF
    refine lv_aload_n hx hb d_All_spare_18 rfl (lv_at hl 1 rfl) ?_
    refine xk_get (C := R_All) (T := F_All) (N := 9) hx hb hts i_All hown hK hP 0 xw_C_at_0 rfl 4 (by decide) u_238 rfl d_All_spare_19 ?_
    obtain ⟨v2, h_v2, hF⟩ := xo_ob hF
    refine xk_goL (xk_runV (As := []) (rest := []) hx hb hml hown hts hK hE (fun _ h => h) hP hS ok_Pla_quartersWithPlots in_Pla_quartersWithPlots u_587 (c_Pla_quartersWithPlots l D cI cZ ad A adK adV hDw st v2 h_v2) (va_recv hK hP (ci := 1) (q0 := 22) rfl xw_C_at_22) (by decide) rfl hl.1 rfl (Nat.le_of_ble_eq_true rfl) d_All_spare_22 ⟨Nat.le_refl _, Nat.le_refl _⟩) (fun _ h => h) hS (fun H locs hP hS => ?_)
    refine lv_lstore (lv' := [(4, .long v2), (3, .int v1), (0, .ref (ad 0)), (1, .int x1), (2, .int x2)]) hx hb d_All_spare_25 hl (by decide) rfl (fun ls hl => ?_)
    refine lv_bipush (v := (-99 : Int32)) hx hb d_All_spare_27 (by decide) ?_
    refine lv_istore (lv' := [(6, .int (-99 : Int32)), (4, .long v2), (3, .int v1), (0, .ref (ad 0)), (1, .int x1), (2, .int x2)]) hx hb d_All_spare_29 hl (by decide) rfl (fun ls hl => ?_)
    have lp31 : ∀ (n : Nat) (w31_6 : Int32) (y : (Int32 ⊕ Unit)), xo_lp (fun q : Int32 => F_All_spare_b31 x1 x2 v2 st q) n w31_6 = some y → (∀ (e6 : Int32), (.inl e6) = y → ∀ (H : Heap) (locs : List Loc) (ls : Array Slot), va_P D classes (xw_C ad cI cZ st) H → va_S A s.heap H locs → lv_has ls 7 [(6, .int e6)] → W p l e (xk_rm 5 116) s m args below meth c H locs 0 0 Q (F0 m 71 ls [])) → ((.inr ()) = y → ∀ (H : Heap) (locs : List Loc) (ls : Array Slot), va_P D classes (xw_C ad cI cZ st) H → va_S A s.heap H locs → lv_has ls 7 [] → W p l e (xk_rm 5 116) s m args below meth c H locs 0 0 Q (F0 m 80 ls [])) → ∀ (H : Heap) (locs : List Loc) (ls : Array Slot), va_P D classes (xw_C ad cI cZ st) H → va_S A s.heap H locs → lv_has ls 7 [(0, .ref (ad 0)), (1, .int x1), (2, .int x2), (4, .long v2), (6, .int w31_6)] → W p l e (xk_rm 5 116) s m args below meth c H locs 0 0 Q (F0 m 31 ls []) := by
      intro n
      induction n with
      | zero =>
        intro w31_6 y hL
        exact nomatch (show (none : Option _) = some y from hL)
      | succ n ih =>
        intro w31_6 y hL kx0 kx1 H locs ls hP hS hl
        obtain ⟨z9, hB, hL⟩ := xo_lp_s hL
        replace hB : F_All_spare_b31 x1 x2 v2 st w31_6 = some z9 := hB
        unfold F_All_spare_b31 at hB
        refine lv_iload hx hb d_All_spare_31 (lv_at hl 4 rfl) ?_
        refine lv_bipush (v := (99 : Int32)) hx hb d_All_spare_33 (by decide) ?_
        refine lv_icmp_gt (tgt := 80) hx hb d_All_spare_35 (by decide) (fun c_175 => ?_) (fun c_175 => ?_)
        · replace hB := xo_if_t c_175 hB
          have q9 := Option.some.inj hB
          subst q9
          replace hL := Option.some.inj (xo_elR hL)
          subst hL
          exact kx1  rfl _ _ _ hP hS (lv_sub hl [] rfl)
        · replace hB := xo_if_f c_175 hB
          refine lv_aload_n hx hb d_All_spare_38 rfl (lv_at hl 0 rfl) ?_
          refine xk_get (C := R_All) (T := F_All) (N := 9) hx hb hts i_All hown hK hP 0 xw_C_at_0 rfl 0 (by decide) u_234 rfl d_All_spare_39 ?_
          refine lv_iload_n hx hb d_All_spare_42 rfl (lv_at hl 1 rfl) ?_
          refine lv_iload_n hx hb d_All_spare_43 rfl (lv_at hl 2 rfl) ?_
          refine lv_iload hx hb d_All_spare_44 (lv_at hl 4 rfl) ?_
          obtain ⟨v4, h_v4, hB⟩ := xo_ob hB
          refine xk_goI (xk_runV (As := [.int x1, .int x2, .int w31_6]) (rest := []) hx hb hml hown hts hK hE (fun _ h => h) hP hS ok_Tow_hasPlotOn in_Tow_hasPlotOn u_592 (c_Tow_hasPlotOn l D cI cZ ad A adK adV hDw x1 x2 w31_6 st v4 h_v4) (va_recv hK hP (ci := 2) (q0 := 1) rfl xw_C_at_1) (by decide) rfl hl.1 rfl (Nat.le_of_ble_eq_true rfl) d_All_spare_46 ⟨Nat.le_refl _, Nat.le_refl _⟩) (fun _ h => h) hS (fun H locs hP hS => ?_)
          refine lv_if_ne (tgt := 74) hx hb d_All_spare_49 (by decide) (fun c_176 => ?_) (fun c_176 => ?_)
          · replace hB := xo_if_f c_176 hB
            obtain ⟨v7, e_v7, hB⟩ := xo_nm_e hB
            refine lv_iinc (v := v7) (lv' := [(6, .int v7), (0, .ref (ad 0)), (1, .int x1), (2, .int x2), (4, .long v2)]) hx hb d_All_spare_74 hl (k := 4) rfl (by rw [e_v7]; rfl) (by decide) rfl (fun ls hl => ?_)
            clear e_v7
            refine lv_goto (tgt := 31) hx hb d_All_spare_77 (by decide) ?_
            have q9 := Option.some.inj hB
            subst q9
            exact ih _ _ (xo_elL hL) kx0 kx1 _ _ _ hP hS (lv_sub hl [1, 2, 3, 4, 0] rfl)
          · replace hB := xo_if_t c_176 hB
            refine lv_aload_n hx hb d_All_spare_52 rfl (lv_at hl 0 rfl) ?_
            refine xk_get (C := R_All) (T := F_All) (N := 9) hx hb hts i_All hown hK hP 0 xw_C_at_0 rfl 4 (by decide) u_238 rfl d_All_spare_53 ?_
            refine lv_iload_n hx hb d_All_spare_56 rfl (lv_at hl 1 rfl) ?_
            refine lv_iload_n hx hb d_All_spare_57 rfl (lv_at hl 2 rfl) ?_
            refine lv_iload hx hb d_All_spare_58 (lv_at hl 4 rfl) ?_
            obtain ⟨v5, h_v5, hB⟩ := xo_ob hB
            refine xk_goL (xk_runV (As := [.int x1, .int x2, .int w31_6]) (rest := []) hx hb hml hown hts hK hE (fun _ h => h) hP hS ok_Pla_cutBy in_Pla_cutBy u_578 (c_Pla_cutBy l D cI cZ ad A adK adV hDw x1 x2 w31_6 st v5 h_v5) (va_recv hK hP (ci := 1) (q0 := 22) rfl xw_C_at_22) (by decide) rfl hl.1 rfl (Nat.le_of_ble_eq_true rfl) d_All_spare_60 ⟨Nat.le_refl _, Nat.le_refl _⟩) (fun _ h => h) hS (fun H locs hP hS => ?_)
            refine lv_lload hx hb d_All_spare_63 (lv_at hl 3 rfl) ?_
            refine lv_land hx hb d_All_spare_65 ?_
            refine lv_lconst (v := (0 : Int64)) hx hb d_All_spare_66 (by decide) ?_
            refine W.lcmp hx hb d_All_spare_67 ?_
            refine lv_if_ne (tgt := 74) hx hb d_All_spare_68 (by decide) (fun c_177 => ?_) (fun c_177 => ?_)
            · replace hB := xo_if_f c_177 hB
              obtain ⟨v6, e_v6, hB⟩ := xo_nm_e hB
              refine lv_iinc (v := v6) (lv' := [(6, .int v6), (0, .ref (ad 0)), (1, .int x1), (2, .int x2), (4, .long v2)]) hx hb d_All_spare_74 hl (k := 4) rfl (by rw [e_v6]; rfl) (by decide) rfl (fun ls hl => ?_)
              clear e_v6
              refine lv_goto (tgt := 31) hx hb d_All_spare_77 (by decide) ?_
              have q9 := Option.some.inj hB
              subst q9
              exact ih _ _ (xo_elL hL) kx0 kx1 _ _ _ hP hS (lv_sub hl [1, 2, 3, 4, 0] rfl)
            · replace hB := xo_if_t c_177 hB
              have q9 := Option.some.inj hB
              subst q9
              replace hL := Option.some.inj (xo_elR hL)
              subst hL
              exact kx0 _ rfl _ _ _ hP hS (lv_sub hl [4] rfl)
    obtain ⟨y31, hL31, hF⟩ := xo_ob hF
    refine lp31 1000000 (-99 : Int32) y31 hL31 ?_ ?_ _ _ _ hP hS (lv_sub hl [3, 4, 5, 1, 0] rfl)
    · intro o3 ey H locs ls hP hS hl
      subst ey
      replace hF := xo_elL hF
      refine lv_iload hx hb d_All_spare_71 (lv_at hl 0 rfl) ?_
      obtain ⟨q8, q9⟩ := xo_s2 hF
      subst q8
      subst q9
      exact hret 73 _ _ _ d_All_spare_73 rfl hP hS
    · intro  ey H locs ls hP hS hl
      subst ey
      replace hF := xo_elR hF
      refine lv_sipush (v := (-999 : Int32)) hx hb d_All_spare_80 (by decide) ?_
      obtain ⟨q8, q9⟩ := xo_s2 hF
      subst q8
      subst q9
      exact hret 83 _ _ _ d_All_spare_83 rfl hP hS
  · replace hF := xo_if_f c_174 hF
    refine lv_aload_n hx hb d_All_spare_12 rfl (lv_at hl 1 rfl) ?_
    refine lv_iload_n hx hb d_All_spare_13 rfl (lv_at hl 0 rfl) ?_
    obtain ⟨v8, t9, h_v8, hF⟩ := xo_ob2 hF
    refine xk_goI (xk_runV (As := [.int v1]) (rest := []) hx hb hml hown hts hK hE (fun _ h => h) hP hS ok_All_refuseFar in_All_refuseFar u_434 (c_All_refuseFar l D cI cZ ad A adK adV hDw v1 st v8 t9 h_v8) (va_recv hK hP (ci := 3) (q0 := 0) rfl xw_C_at_0) (by decide) rfl hl.1 rfl (Nat.le_of_ble_eq_true rfl) d_All_spare_14 ⟨Nat.le_refl _, Nat.le_refl _⟩) (fun _ h => h) hS (fun H locs hP hS => ?_)
    obtain ⟨q8, q9⟩ := xo_s2 hF
    subst q8
    subst q9
    exact hret 17 _ _ _ d_All_spare_17 rfl hP hS
set_option maxHeartbeats 4000000 in
set_option maxRecDepth 100000 in
theorem c_All_most (l : Launch) (D : va_G) (cI cZ : ClassId) (ad : Nat → Nat) (A : Nat → Prop) (adK adV : Nat → Nat) (hDw : ∀ st : XS, va_D A (xw_C ad cI cZ st)) (x1 : Int32) (x2 : Int32) (st : XS) (r9 : Int32) (st9 : XS) (hF : F_All_most x1 x2 st = some (r9, st9)) : K_I l D cI cZ A adK adV (xw_C ad cI cZ) y_All_most b_All_most 6 (some .int) 3 70 [.ref (ad 0), .int x1, .int x2] st r9 st9 := by
  refine xk_startI (by decide) .int rfl (Nat.le_of_ble_eq_true rfl) ?_
  intro p e s m args below meth c Q ls hx hb hml hown hts hK hE hP hS hl hret
  replace hown : s.vm.findClass R_All = some m.cls := hown
  replace hl : lv_has ls 6 [(0, .ref (ad 0)), (1, .int x1), (2, .int x2)] := hl
  unfold F_All_most at hF
  refine lv_aload_n hx hb d_All_most_0 rfl (lv_at hl 0 rfl) ?_
  refine lv_iload_n hx hb d_All_most_1 rfl (lv_at hl 1 rfl) ?_
  refine lv_iload_n hx hb d_All_most_2 rfl (lv_at hl 2 rfl) ?_
  refine lv_iconst (v := (0 : Int32)) hx hb d_All_most_3 (by decide) ?_
  obtain ⟨v1, h_v1, hF⟩ := xo_ob hF
  refine xk_goI (xk_runV (As := [.int x1, .int x2, .int (0 : Int32)]) (rest := []) hx hb hml hown hts hK hE (fun _ h => h) hP hS ok_All_whyNoNewLine in_All_whyNoNewLine u_569 (c_All_whyNoNewLine l D cI cZ ad A adK adV hDw x1 x2 (0 : Int32) st v1 h_v1) (va_recv hK hP (ci := 3) (q0 := 0) rfl xw_C_at_0) (by decide) rfl hl.1 rfl (Nat.le_of_ble_eq_true rfl) d_All_most_4 ⟨Nat.le_refl _, Nat.le_refl _⟩) (fun _ h => h) hS (fun H locs hP hS => ?_)
  refine lv_istore_n (lv' := [(3, .int v1), (0, .ref (ad 0)), (1, .int x1), (2, .int x2)]) hx hb d_All_most_7 rfl hl (by decide) rfl (fun ls hl => ?_)
  refine lv_iload_n hx hb d_All_most_8 rfl (lv_at hl 0 rfl) ?_
  refine lv_if_eq (tgt := 18) hx hb d_All_most_9 (by decide) (fun c_180 => ?_) (fun c_180 => ?_)
  · replace hF := xo_if_t c_180 hF
    refine lv_iconst (v := (0 : Int32)) hx hb d_All_most_18 (by decide) ?_
    refine lv_istore (lv' := [(4, .int (0 : Int32)), (3, .int v1), (0, .ref (ad 0)), (1, .int x1), (2, .int x2)]) hx hb d_All_most_19 hl (by decide) rfl (fun ls hl => ?_)
    refine lv_bipush (v := (-99 : Int32)) hx hb d_All_most_21 (by decide) ?_
    refine lv_istore (lv' := [(5, .int (-99 : Int32)), (4, .int (0 : Int32)), (3, .int v1), (0, .ref (ad 0)), (1, .int x1), (2, .int x2)]) hx hb d_All_most_23 hl (by decide) rfl (fun ls hl => ?_)
    have lp25 : ∀ (n : Nat) (w25_4 : Int32) (w25_5 : Int32) (y : Int32), xo_lp (fun q : (Int32 × Int32) => F_All_most_b25 x1 x2 st q.1 q.2) n (w25_4, w25_5) = some y → (∀ (e4 : Int32), e4 = y → ∀ (H : Heap) (locs : List Loc) (ls : Array Slot), va_P D classes (xw_C ad cI cZ st) H → va_S A s.heap H locs → lv_has ls 6 [(4, .int e4)] → W p l e (xk_rm 3 70) s m args below meth c H locs 0 0 Q (F0 m 56 ls [])) → ∀ (H : Heap) (locs : List Loc) (ls : Array Slot), va_P D classes (xw_C ad cI cZ st) H → va_S A s.heap H locs → lv_has ls 6 [(0, .ref (ad 0)), (1, .int x1), (2, .int x2), (4, .int w25_4), (5, .int w25_5)] → W p l e (xk_rm 3 70) s m args below meth c H locs 0 0 Q (F0 m 25 ls []) := by
      intro n
      induction n with
      | zero =>
        intro w25_4 w25_5 y hL
        exact nomatch (show (none : Option _) = some y from hL)
      | succ n ih =>
        intro w25_4 w25_5 y hL kx0 H locs ls hP hS hl
        obtain ⟨z9, hB, hL⟩ := xo_lp_s hL
        replace hB : F_All_most_b25 x1 x2 st w25_4 w25_5 = some z9 := hB
        unfold F_All_most_b25 at hB
        refine lv_iload hx hb d_All_most_25 (lv_at hl 4 rfl) ?_
        refine lv_bipush (v := (99 : Int32)) hx hb d_All_most_27 (by decide) ?_
        refine lv_icmp_gt (tgt := 56) hx hb d_All_most_29 (by decide) (fun c_181 => ?_) (fun c_181 => ?_)
        · replace hB := xo_if_t c_181 hB
          have q9 := Option.some.inj hB
          subst q9
          replace hL := Option.some.inj (xo_elR hL)
          subst hL
          exact kx0 _ rfl _ _ _ hP hS (lv_sub hl [3] rfl)
        · replace hB := xo_if_f c_181 hB
          refine lv_iload hx hb d_All_most_32 (lv_at hl 3 rfl) ?_
          refine lv_aload_n hx hb d_All_most_34 rfl (lv_at hl 0 rfl) ?_
          refine xk_get (C := R_All) (T := F_All) (N := 9) hx hb hts i_All hown hK hP 0 xw_C_at_0 rfl 4 (by decide) u_238 rfl d_All_most_35 ?_
          refine lv_iload_n hx hb d_All_most_38 rfl (lv_at hl 1 rfl) ?_
          refine lv_iload_n hx hb d_All_most_39 rfl (lv_at hl 2 rfl) ?_
          refine lv_iload hx hb d_All_most_40 (lv_at hl 4 rfl) ?_
          obtain ⟨v3, h_v3, hB⟩ := xo_ob hB
          refine xk_goI (xk_runV (As := [.int x1, .int x2, .int w25_5]) (rest := [.int w25_4]) hx hb hml hown hts hK hE (fun _ h => h) hP hS ok_Pla_pointsOn in_Pla_pointsOn u_600 (c_Pla_pointsOn l D cI cZ ad A adK adV hDw x1 x2 w25_5 st v3 h_v3) (va_recv hK hP (ci := 1) (q0 := 22) rfl xw_C_at_22) (by decide) rfl hl.1 rfl (Nat.le_of_ble_eq_true rfl) d_All_most_42 ⟨Nat.le_refl _, Nat.le_refl _⟩) (fun _ h => h) hS (fun H locs hP hS => ?_)
          refine va_mmax hx hb (by rw [hml]; exact hl.1.symm) hown (hts _ u_ms604_max) (hts _ u_st_max) (hts _ u_in_Math) (hts _ u_co_max) (by decide) (Nat.le_of_ble_eq_true rfl) (Nat.le_refl _) (Nat.le_refl _) d_All_most_45 ?_
          refine lv_topi (fun v4 e_v4 => ?_)
          replace hB := xo_nm_u hB e_v4
          clear e_v4
          refine lv_istore (lv' := [(4, .int v4), (0, .ref (ad 0)), (1, .int x1), (2, .int x2), (5, .int w25_5)]) hx hb d_All_most_48 hl (by decide) rfl (fun ls hl => ?_)
          obtain ⟨v5, e_v5, hB⟩ := xo_nm_e hB
          refine lv_iinc (v := v5) (lv' := [(5, .int v5), (4, .int v4), (0, .ref (ad 0)), (1, .int x1), (2, .int x2)]) hx hb d_All_most_50 hl (k := 4) rfl (by rw [e_v5]; rfl) (by decide) rfl (fun ls hl => ?_)
          clear e_v5
          refine lv_goto (tgt := 25) hx hb d_All_most_53 (by decide) ?_
          have q9 := Option.some.inj hB
          subst q9
          exact ih _ _ _ (xo_elL hL) kx0 _ _ _ hP hS (lv_sub hl [2, 3, 4, 1, 0] rfl)
    obtain ⟨y25, hL25, hF⟩ := xo_ob hF
    refine lp25 1000000 (0 : Int32) (-99 : Int32) y25 hL25 ?_ _ _ _ hP hS (lv_sub hl [3, 4, 5, 1, 0] rfl)
    intro o2 ey H locs ls hP hS hl
    subst ey
    refine lv_iload hx hb d_All_most_56 (lv_at hl 0 rfl) ?_
    obtain ⟨q8, q9⟩ := xo_s2 hF
    subst q8
    subst q9
    exact hret 58 _ _ _ d_All_most_58 rfl hP hS
  · replace hF := xo_if_f c_180 hF
    refine lv_aload_n hx hb d_All_most_12 rfl (lv_at hl 1 rfl) ?_
    refine lv_iload_n hx hb d_All_most_13 rfl (lv_at hl 0 rfl) ?_
    obtain ⟨v6, t7, h_v6, hF⟩ := xo_ob2 hF
    refine xk_goI (xk_runV (As := [.int v1]) (rest := []) hx hb hml hown hts hK hE (fun _ h => h) hP hS ok_All_refuse in_All_refuse u_266 (c_All_refuse l D cI cZ ad A adK adV hDw v1 st v6 t7 h_v6) (va_recv hK hP (ci := 3) (q0 := 0) rfl xw_C_at_0) (by decide) rfl hl.1 rfl (Nat.le_of_ble_eq_true rfl) d_All_most_14 ⟨Nat.le_refl _, Nat.le_refl _⟩) (fun _ h => h) hS (fun H locs hP hS => ?_)
    obtain ⟨q8, q9⟩ := xo_s2 hF
    subst q8
    subst q9
    exact hret 17 _ _ _ d_All_most_17 rfl hP hS
set_option maxHeartbeats 4000000 in
set_option maxRecDepth 100000 in
theorem c_All_fearedLines (l : Launch) (D : va_G) (cI cZ : ClassId) (ad : Nat → Nat) (A : Nat → Prop) (adK adV : Nat → Nat) (hDw : ∀ st : XS, va_D A (xw_C ad cI cZ st)) (x1 : Int32) (x2 : Int32) (x3 : Int32) (st : XS) (r9 : Int32) (hF : F_All_fearedLines x1 x2 x3 st = some r9) : K_I l D cI cZ A adK adV (xw_C ad cI cZ) y_All_fearedLines b_All_fearedLines 6 (some .int) 3 81 [.ref (ad 0), .int x1, .int x2, .int x3] st r9 st := by
  refine xk_startI (by decide) .int rfl (Nat.le_of_ble_eq_true rfl) ?_
  intro p e s m args below meth c Q ls hx hb hml hown hts hK hE hP hS hl hret
  replace hown : s.vm.findClass R_All = some m.cls := hown
  replace hl : lv_has ls 6 [(0, .ref (ad 0)), (1, .int x1), (2, .int x2), (3, .int x3)] := hl
  unfold F_All_fearedLines at hF
  refine lv_iconst (v := (0 : Int32)) hx hb d_All_fearedLines_0 (by decide) ?_
  refine lv_istore (lv' := [(4, .int (0 : Int32)), (0, .ref (ad 0)), (1, .int x1), (2, .int x2), (3, .int x3)]) hx hb d_All_fearedLines_1 hl (by decide) rfl (fun ls hl => ?_)
  refine lv_bipush (v := (-9 : Int32)) hx hb d_All_fearedLines_3 (by decide) ?_
  refine lv_istore (lv' := [(5, .int (-9 : Int32)), (4, .int (0 : Int32)), (0, .ref (ad 0)), (1, .int x1), (2, .int x2), (3, .int x3)]) hx hb d_All_fearedLines_5 hl (by decide) rfl (fun ls hl => ?_)
  have lp7 : ∀ (n : Nat) (w7_4 : Int32) (w7_5 : Int32) (y : Int32), xo_lp (fun q : (Int32 × Int32) => F_All_fearedLines_b7 x1 x2 x3 st q.1 q.2) n (w7_4, w7_5) = some y → (∀ (e4 : Int32), e4 = y → ∀ (H : Heap) (locs : List Loc) (ls : Array Slot), va_P D classes (xw_C ad cI cZ st) H → va_S A s.heap H locs → lv_has ls 6 [(4, .int e4)] → W p l e (xk_rm 3 81) s m args below meth c H locs 0 0 Q (F0 m 41 ls [])) → ∀ (H : Heap) (locs : List Loc) (ls : Array Slot), va_P D classes (xw_C ad cI cZ st) H → va_S A s.heap H locs → lv_has ls 6 [(0, .ref (ad 0)), (1, .int x1), (2, .int x2), (3, .int x3), (4, .int w7_4), (5, .int w7_5)] → W p l e (xk_rm 3 81) s m args below meth c H locs 0 0 Q (F0 m 7 ls []) := by
    intro n
    induction n with
    | zero =>
      intro w7_4 w7_5 y hL
      exact nomatch (show (none : Option _) = some y from hL)
    | succ n ih =>
      intro w7_4 w7_5 y hL kx0 H locs ls hP hS hl
      obtain ⟨z9, hB, hL⟩ := xo_lp_s hL
      replace hB : F_All_fearedLines_b7 x1 x2 x3 st w7_4 w7_5 = some z9 := hB
      unfold F_All_fearedLines_b7 at hB
      refine lv_iload hx hb d_All_fearedLines_7 (lv_at hl 5 rfl) ?_
      refine lv_bipush (v := (9 : Int32)) hx hb d_All_fearedLines_9 (by decide) ?_
      refine lv_icmp_gt (tgt := 41) hx hb d_All_fearedLines_11 (by decide) (fun c_182 => ?_) (fun c_182 => ?_)
      · replace hB := xo_if_t c_182 hB
        have q9 := Option.some.inj hB
        subst q9
        replace hL := Option.some.inj (xo_elR hL)
        subst hL
        exact kx0 _ rfl _ _ _ hP hS (lv_sub hl [4] rfl)
      · replace hB := xo_if_f c_182 hB
        refine lv_aload_n hx hb d_All_fearedLines_14 rfl (lv_at hl 0 rfl) ?_
        refine xk_get (C := R_All) (T := F_All) (N := 9) hx hb hts i_All hown hK hP 0 xw_C_at_0 rfl 4 (by decide) u_238 rfl d_All_fearedLines_15 ?_
        refine lv_iload_n hx hb d_All_fearedLines_18 rfl (lv_at hl 1 rfl) ?_
        refine lv_iload_n hx hb d_All_fearedLines_19 rfl (lv_at hl 2 rfl) ?_
        refine lv_iload hx hb d_All_fearedLines_20 (lv_at hl 5 rfl) ?_
        obtain ⟨v2, h_v2, hB⟩ := xo_ob hB
        refine xk_goL (xk_runV (As := [.int x1, .int x2, .int w7_5]) (rest := []) hx hb hml hown hts hK hE (fun _ h => h) hP hS ok_Pla_cutBy in_Pla_cutBy u_578 (c_Pla_cutBy l D cI cZ ad A adK adV hDw x1 x2 w7_5 st v2 h_v2) (va_recv hK hP (ci := 1) (q0 := 22) rfl xw_C_at_22) (by decide) rfl hl.1 rfl (Nat.le_of_ble_eq_true rfl) d_All_fearedLines_22 ⟨Nat.le_refl _, Nat.le_refl _⟩) (fun _ h => h) hS (fun H locs hP hS => ?_)
        refine lv_iload_n hx hb d_All_fearedLines_25 rfl (lv_at hl 3 rfl) ?_
        obtain ⟨v3, h_v3, hB⟩ := xo_ob hB
        refine xk_goI (xk_runS (As := [.long v2, .int x3]) (rest := []) hx hb hml hown hts hK hE (fun _ h => h) hP hS ok_All_has st_All_has u_521 (c_All_has l D cI cZ ad A adK adV hDw v2 x3 st v3 h_v3) (by decide) rfl hl.1 rfl (Nat.le_of_ble_eq_true rfl) d_All_fearedLines_26 ⟨Nat.le_refl _, Nat.le_refl _⟩) (fun _ h => h) hS (fun H locs hP hS => ?_)
        refine lv_if_eq (tgt := 35) hx hb d_All_fearedLines_29 (by decide) (fun c_183 => ?_) (fun c_183 => ?_)
        · replace hB := xo_if_t c_183 hB
          obtain ⟨v4, e_v4, hB⟩ := xo_nm_e hB
          refine lv_iinc (v := v4) (lv' := [(5, .int v4), (0, .ref (ad 0)), (1, .int x1), (2, .int x2), (3, .int x3), (4, .int w7_4)]) hx hb d_All_fearedLines_35 hl (k := 5) rfl (by rw [e_v4]; rfl) (by decide) rfl (fun ls hl => ?_)
          clear e_v4
          refine lv_goto (tgt := 7) hx hb d_All_fearedLines_38 (by decide) ?_
          have q9 := Option.some.inj hB
          subst q9
          exact ih _ _ _ (xo_elL hL) kx0 _ _ _ hP hS (lv_sub hl [1, 2, 3, 4, 5, 0] rfl)
        · replace hB := xo_if_f c_183 hB
          obtain ⟨v5, e_v5, hB⟩ := xo_nm_e hB
          refine lv_iinc (v := v5) (lv' := [(4, .int v5), (0, .ref (ad 0)), (1, .int x1), (2, .int x2), (3, .int x3), (5, .int w7_5)]) hx hb d_All_fearedLines_32 hl (k := 4) rfl (by rw [e_v5]; rfl) (by decide) rfl (fun ls hl => ?_)
          clear e_v5
          obtain ⟨v6, e_v6, hB⟩ := xo_nm_e hB
          refine lv_iinc (v := v6) (lv' := [(5, .int v6), (4, .int v5), (0, .ref (ad 0)), (1, .int x1), (2, .int x2), (3, .int x3)]) hx hb d_All_fearedLines_35 hl (k := 5) rfl (by rw [e_v6]; rfl) (by decide) rfl (fun ls hl => ?_)
          clear e_v6
          refine lv_goto (tgt := 7) hx hb d_All_fearedLines_38 (by decide) ?_
          have q9 := Option.some.inj hB
          subst q9
          exact ih _ _ _ (xo_elL hL) kx0 _ _ _ hP hS (lv_sub hl [2, 3, 4, 5, 1, 0] rfl)
  obtain ⟨y7, hL7, hF⟩ := xo_ob hF
  refine lp7 1000000 (0 : Int32) (-9 : Int32) y7 hL7 ?_ _ _ _ hP hS (lv_sub hl [2, 3, 4, 5, 1, 0] rfl)
  intro o1 ey H locs ls hP hS hl
  subst ey
  refine lv_iload hx hb d_All_fearedLines_41 (lv_at hl 0 rfl) ?_
  have q9 := Option.some.inj hF
  subst q9
  exact hret 43 _ _ _ d_All_fearedLines_43 rfl hP hS
set_option maxHeartbeats 4000000 in
set_option maxRecDepth 100000 in
theorem c_All_fear (l : Launch) (D : va_G) (cI cZ : ClassId) (ad : Nat → Nat) (A : Nat → Prop) (adK adV : Nat → Nat) (hDw : ∀ st : XS, va_D A (xw_C ad cI cZ st)) (x1 : Int32) (x2 : Int32) (st : XS) (r9 : Int32) (st9 : XS) (hF : F_All_fear x1 x2 st = some (r9, st9)) : K_I l D cI cZ A adK adV (xw_C ad cI cZ) y_All_fear b_All_fear 8 (some .int) 4 106 [.ref (ad 0), .int x1, .int x2] st r9 st9 := by
  refine xk_startI (by decide) .int rfl (Nat.le_of_ble_eq_true rfl) ?_
  intro p e s m args below meth c Q ls hx hb hml hown hts hK hE hP hS hl hret
  replace hown : s.vm.findClass R_All = some m.cls := hown
  replace hl : lv_has ls 8 [(0, .ref (ad 0)), (1, .int x1), (2, .int x2)] := hl
  unfold F_All_fear at hF
  have mg55 : ∀ (x2 : Int32) (x3 : Int32) (xs : XS), F_All_fear_m55 x2 x3 xs = some (r9, st9) → ∀ (H : Heap) (locs : List Loc) (ls : Array Slot), va_P D classes (xw_C ad cI cZ xs) H → va_S A s.heap H locs → lv_has ls 8 [(0, .ref (ad 0)), (2, .int x2), (3, .int x3)] → W p l e (xk_rm 4 106) s m args below meth c H locs 0 0 Q (F0 m 55 ls []) := by
    intro x2 x3 xs hF H locs ls hP hS hl
    unfold F_All_fear_m55 at hF
    refine lv_iconst (v := (0 : Int32)) hx hb d_All_fear_55 (by decide) ?_
    refine lv_istore (lv' := [(4, .int (0 : Int32)), (0, .ref (ad 0)), (2, .int x2), (3, .int x3)]) hx hb d_All_fear_56 hl (by decide) rfl (fun ls hl => ?_)
    refine lv_iconst (v := (0 : Int32)) hx hb d_All_fear_58 (by decide) ?_
    refine lv_istore (lv' := [(5, .int (0 : Int32)), (4, .int (0 : Int32)), (0, .ref (ad 0)), (2, .int x2), (3, .int x3)]) hx hb d_All_fear_59 hl (by decide) rfl (fun ls hl => ?_)
    refine lv_iconst (v := (0 : Int32)) hx hb d_All_fear_61 (by decide) ?_
    refine lv_istore (lv' := [(6, .int (0 : Int32)), (5, .int (0 : Int32)), (4, .int (0 : Int32)), (0, .ref (ad 0)), (2, .int x2), (3, .int x3)]) hx hb d_All_fear_62 hl (by decide) rfl (fun ls hl => ?_)
    have lp64 : ∀ (n : Nat) (w64_4 : Int32) (w64_5 : Int32) (w64_6 : Int32) (y : (Int32 × Int32)), xo_lp (fun q : (Int32 × Int32 × Int32) => F_All_fear_b64 x2 x3 xs q.1 q.2.1 q.2.2) n (w64_4, w64_5, w64_6) = some y → (∀ (e4 : Int32) (e5 : Int32), (e4, e5) = y → ∀ (H : Heap) (locs : List Loc) (ls : Array Slot), va_P D classes (xw_C ad cI cZ xs) H → va_S A s.heap H locs → lv_has ls 8 [(2, .int x2), (4, .int e4), (5, .int e5)] → W p l e (xk_rm 4 106) s m args below meth c H locs 0 0 Q (F0 m 129 ls [])) → ∀ (H : Heap) (locs : List Loc) (ls : Array Slot), va_P D classes (xw_C ad cI cZ xs) H → va_S A s.heap H locs → lv_has ls 8 [(0, .ref (ad 0)), (2, .int x2), (3, .int x3), (4, .int w64_4), (5, .int w64_5), (6, .int w64_6)] → W p l e (xk_rm 4 106) s m args below meth c H locs 0 0 Q (F0 m 64 ls []) := by
      intro n
      induction n with
      | zero =>
        intro w64_4 w64_5 w64_6 y hL
        exact nomatch (show (none : Option _) = some y from hL)
      | succ n ih =>
        intro w64_4 w64_5 w64_6 y hL kx0 H locs ls hP hS hl
        obtain ⟨z9, hB, hL⟩ := xo_lp_s hL
        replace hB : F_All_fear_b64 x2 x3 xs w64_4 w64_5 w64_6 = some z9 := hB
        unfold F_All_fear_b64 at hB
        refine lv_iload hx hb d_All_fear_64 (lv_at hl 5 rfl) ?_
        refine lv_iconst (v := (2 : Int32)) hx hb d_All_fear_66 (by decide) ?_
        refine lv_icmp_gt (tgt := 129) hx hb d_All_fear_67 (by decide) (fun c_184 => ?_) (fun c_184 => ?_)
        · replace hB := xo_if_t c_184 hB
          have q9 := Option.some.inj hB
          subst q9
          replace hL := Option.some.inj (xo_elR hL)
          subst hL
          exact kx0 _ _ rfl _ _ _ hP hS (lv_sub hl [1, 3, 4] rfl)
        · replace hB := xo_if_f c_184 hB
          refine lv_bipush (v := (-2 : Int32)) hx hb d_All_fear_70 (by decide) ?_
          refine lv_istore (lv' := [(7, .int (-2 : Int32)), (0, .ref (ad 0)), (2, .int x2), (3, .int x3), (4, .int w64_4), (5, .int w64_5), (6, .int w64_6)]) hx hb d_All_fear_72 hl (by decide) rfl (fun ls hl => ?_)
          have lp74 : ∀ (n : Nat) (w74_4 : Int32) (w74_5 : Int32) (w74_7 : Int32) (y : (Int32 × Int32)), xo_lp (fun q : (Int32 × Int32 × Int32) => F_All_fear_b74 x2 x3 w64_6 xs q.1 q.2.1 q.2.2) n (w74_4, w74_5, w74_7) = some y → (∀ (e4 : Int32) (e5 : Int32), (e4, e5) = y → ∀ (H : Heap) (locs : List Loc) (ls : Array Slot), va_P D classes (xw_C ad cI cZ xs) H → va_S A s.heap H locs → lv_has ls 8 [(0, .ref (ad 0)), (2, .int x2), (3, .int x3), (4, .int e4), (5, .int e5), (6, .int w64_6)] → W p l e (xk_rm 4 106) s m args below meth c H locs 0 0 Q (F0 m 123 ls [])) → ∀ (H : Heap) (locs : List Loc) (ls : Array Slot), va_P D classes (xw_C ad cI cZ xs) H → va_S A s.heap H locs → lv_has ls 8 [(0, .ref (ad 0)), (2, .int x2), (3, .int x3), (4, .int w74_4), (5, .int w74_5), (6, .int w64_6), (7, .int w74_7)] → W p l e (xk_rm 4 106) s m args below meth c H locs 0 0 Q (F0 m 74 ls []) := by
            intro n
            induction n with
            | zero =>
              intro w74_4 w74_5 w74_7 y hL
              exact nomatch (show (none : Option _) = some y from hL)
            | succ n ih =>
              intro w74_4 w74_5 w74_7 y hL kx0 H locs ls hP hS hl
              obtain ⟨z9, hB, hL⟩ := xo_lp_s hL
              replace hB : F_All_fear_b74 x2 x3 w64_6 xs w74_4 w74_5 w74_7 = some z9 := hB
              unfold F_All_fear_b74 at hB
              refine lv_iload hx hb d_All_fear_74 (lv_at hl 6 rfl) ?_
              refine lv_iconst (v := (2 : Int32)) hx hb d_All_fear_76 (by decide) ?_
              refine lv_icmp_gt (tgt := 123) hx hb d_All_fear_77 (by decide) (fun c_185 => ?_) (fun c_185 => ?_)
              · replace hB := xo_if_t c_185 hB
                have q9 := Option.some.inj hB
                subst q9
                replace hL := Option.some.inj (xo_elR hL)
                subst hL
                exact kx0 _ _ rfl _ _ _ hP hS (lv_sub hl [0, 1, 2, 3, 4, 5] rfl)
              · replace hB := xo_if_f c_185 hB
                refine lv_aload_n hx hb d_All_fear_80 rfl (lv_at hl 0 rfl) ?_
                refine lv_iload hx hb d_All_fear_81 (lv_at hl 5 rfl) ?_
                refine lv_iload hx hb d_All_fear_83 (lv_at hl 6 rfl) ?_
                refine lv_iconst (v := (0 : Int32)) hx hb d_All_fear_85 (by decide) ?_
                obtain ⟨v5, h_v5, hB⟩ := xo_ob hB
                refine xk_goI (xk_runV (As := [.int w64_6, .int w74_7, .int (0 : Int32)]) (rest := []) hx hb hml hown hts hK hE (fun _ h => h) hP hS ok_All_whyNoNewLine in_All_whyNoNewLine u_569 (c_All_whyNoNewLine l D cI cZ ad A adK adV hDw w64_6 w74_7 (0 : Int32) xs v5 h_v5) (va_recv hK hP (ci := 3) (q0 := 0) rfl xw_C_at_0) (by decide) rfl hl.1 rfl (Nat.le_of_ble_eq_true rfl) d_All_fear_86 ⟨Nat.le_refl _, Nat.le_refl _⟩) (fun _ h => h) hS (fun H locs hP hS => ?_)
                refine lv_if_ne (tgt := 117) hx hb d_All_fear_89 (by decide) (fun c_186 => ?_) (fun c_186 => ?_)
                · replace hB := xo_if_f c_186 hB
                  obtain ⟨v12, e_v12, hB⟩ := xo_nm_e hB
                  refine lv_iinc (v := v12) (lv' := [(7, .int v12), (0, .ref (ad 0)), (2, .int x2), (3, .int x3), (4, .int w74_4), (5, .int w74_5), (6, .int w64_6)]) hx hb d_All_fear_117 hl (k := 6) rfl (by rw [e_v12]; rfl) (by decide) rfl (fun ls hl => ?_)
                  clear e_v12
                  refine lv_goto (tgt := 74) hx hb d_All_fear_120 (by decide) ?_
                  have q9 := Option.some.inj hB
                  subst q9
                  exact ih _ _ _ _ (xo_elL hL) kx0 _ _ _ hP hS (lv_sub hl [1, 2, 3, 4, 5, 6, 0] rfl)
                · replace hB := xo_if_t c_186 hB
                  obtain ⟨v6, e_v6, hB⟩ := xo_nm_e hB
                  refine lv_iinc (v := v6) (lv' := [(4, .int v6), (0, .ref (ad 0)), (2, .int x2), (3, .int x3), (5, .int w74_5), (6, .int w64_6), (7, .int w74_7)]) hx hb d_All_fear_92 hl (k := 3) rfl (by rw [e_v6]; rfl) (by decide) rfl (fun ls hl => ?_)
                  clear e_v6
                  refine lv_iload hx hb d_All_fear_95 (lv_at hl 4 rfl) ?_
                  refine lv_iload_n hx hb d_All_fear_97 rfl (lv_at hl 2 rfl) ?_
                  refine lv_if_ne (tgt := 113) hx hb d_All_fear_98 (by decide) (fun c_187 => ?_) (fun c_187 => ?_)
                  · replace hB := xo_if_f c_187 hB
                    refine lv_iconst (v := (0 : Int32)) hx hb d_All_fear_113 (by decide) ?_
                    refine lv_iadd hx hb d_All_fear_114 ?_
                    refine lv_topi (fun v10 e_v10 => ?_)
                    replace hB := xo_nm_u hB e_v10
                    clear e_v10
                    refine lv_istore (lv' := [(5, .int v10), (4, .int v6), (0, .ref (ad 0)), (2, .int x2), (3, .int x3), (6, .int w64_6), (7, .int w74_7)]) hx hb d_All_fear_115 hl (by decide) rfl (fun ls hl => ?_)
                    obtain ⟨v11, e_v11, hB⟩ := xo_nm_e hB
                    refine lv_iinc (v := v11) (lv' := [(7, .int v11), (5, .int v10), (4, .int v6), (0, .ref (ad 0)), (2, .int x2), (3, .int x3), (6, .int w64_6)]) hx hb d_All_fear_117 hl (k := 6) rfl (by rw [e_v11]; rfl) (by decide) rfl (fun ls hl => ?_)
                    clear e_v11
                    refine lv_goto (tgt := 74) hx hb d_All_fear_120 (by decide) ?_
                    have q9 := Option.some.inj hB
                    subst q9
                    exact ih _ _ _ _ (xo_elL hL) kx0 _ _ _ hP hS (lv_sub hl [3, 4, 5, 2, 1, 6, 0] rfl)
                  · replace hB := xo_if_t c_187 hB
                    refine lv_aload_n hx hb d_All_fear_101 rfl (lv_at hl 1 rfl) ?_
                    refine lv_iload hx hb d_All_fear_102 (lv_at hl 5 rfl) ?_
                    refine lv_iload hx hb d_All_fear_104 (lv_at hl 6 rfl) ?_
                    refine lv_iload_n hx hb d_All_fear_106 rfl (lv_at hl 3 rfl) ?_
                    obtain ⟨v7, h_v7, hB⟩ := xo_ob hB
                    refine xk_goI (xk_runV (As := [.int w64_6, .int w74_7, .int x3]) (rest := [.int w74_5]) hx hb hml hown hts hK hE (fun _ h => h) hP hS ok_All_fearedLines in_All_fearedLines u_609 (c_All_fearedLines l D cI cZ ad A adK adV hDw w64_6 w74_7 x3 xs v7 h_v7) (va_recv hK hP (ci := 3) (q0 := 0) rfl xw_C_at_0) (by decide) rfl hl.1 rfl (Nat.le_of_ble_eq_true rfl) d_All_fear_107 ⟨Nat.le_refl _, Nat.le_refl _⟩) (fun _ h => h) hS (fun H locs hP hS => ?_)
                    refine lv_goto (tgt := 114) hx hb d_All_fear_110 (by decide) ?_
                    refine lv_iadd hx hb d_All_fear_114 ?_
                    refine lv_topi (fun v8 e_v8 => ?_)
                    replace hB := xo_nm_u hB e_v8
                    clear e_v8
                    refine lv_istore (lv' := [(5, .int v8), (4, .int v6), (0, .ref (ad 0)), (2, .int x2), (3, .int x3), (6, .int w64_6), (7, .int w74_7)]) hx hb d_All_fear_115 hl (by decide) rfl (fun ls hl => ?_)
                    obtain ⟨v9, e_v9, hB⟩ := xo_nm_e hB
                    refine lv_iinc (v := v9) (lv' := [(7, .int v9), (5, .int v8), (4, .int v6), (0, .ref (ad 0)), (2, .int x2), (3, .int x3), (6, .int w64_6)]) hx hb d_All_fear_117 hl (k := 6) rfl (by rw [e_v9]; rfl) (by decide) rfl (fun ls hl => ?_)
                    clear e_v9
                    refine lv_goto (tgt := 74) hx hb d_All_fear_120 (by decide) ?_
                    have q9 := Option.some.inj hB
                    subst q9
                    exact ih _ _ _ _ (xo_elL hL) kx0 _ _ _ hP hS (lv_sub hl [3, 4, 5, 2, 1, 6, 0] rfl)
          obtain ⟨y74, hL74, hB⟩ := xo_ob hB
          refine lp74 1000000 w64_4 w64_5 (-2 : Int32) y74 hL74 ?_ _ _ _ hP hS (lv_sub hl [1, 2, 3, 4, 5, 6, 0] rfl)
          intro o3 o4 ey H locs ls hP hS hl
          subst ey
          replace hB := xo_u2e hB
          obtain ⟨v13, e_v13, hB⟩ := xo_nm_e hB
          refine lv_iinc (v := v13) (lv' := [(6, .int v13), (0, .ref (ad 0)), (2, .int x2), (3, .int x3), (4, .int o3), (5, .int o4)]) hx hb d_All_fear_123 hl (k := 5) rfl (by rw [e_v13]; rfl) (by decide) rfl (fun ls hl => ?_)
          clear e_v13
          refine lv_goto (tgt := 64) hx hb d_All_fear_126 (by decide) ?_
          have q9 := Option.some.inj hB
          subst q9
          exact ih _ _ _ _ (xo_elL hL) kx0 _ _ _ hP hS (lv_sub hl [1, 2, 3, 4, 5, 0] rfl)
    obtain ⟨y64, hL64, hF⟩ := xo_ob hF
    refine lp64 1000000 (0 : Int32) (0 : Int32) (0 : Int32) y64 hL64 ?_ _ _ _ hP hS (lv_sub hl [3, 4, 5, 2, 1, 0] rfl)
    intro o1 o2 ey H locs ls hP hS hl
    subst ey
    replace hF := xo_u2e hF
    refine lv_iload_n hx hb d_All_fear_129 rfl (lv_at hl 0 rfl) ?_
    refine lv_if_ne (tgt := 138) hx hb d_All_fear_130 (by decide) (fun c_188 => ?_) (fun c_188 => ?_)
    · replace hF := xo_if_f c_188 hF
      refine lv_iload hx hb d_All_fear_138 (lv_at hl 1 rfl) ?_
      obtain ⟨q8, q9⟩ := xo_s2 hF
      subst q8
      subst q9
      exact hret 140 _ _ _ d_All_fear_140 rfl hP hS
    · replace hF := xo_if_t c_188 hF
      refine lv_iload hx hb d_All_fear_133 (lv_at hl 2 rfl) ?_
      refine lv_goto (tgt := 140) hx hb d_All_fear_135 (by decide) ?_
      obtain ⟨q8, q9⟩ := xo_s2 hF
      subst q8
      subst q9
      exact hret 140 _ _ _ d_All_fear_140 rfl hP hS
  have mg33 : ∀ (x1 : Int32) (x2 : Int32) (xs : XS), F_All_fear_m33 x1 x2 xs = some (r9, st9) → ∀ (H : Heap) (locs : List Loc) (ls : Array Slot), va_P D classes (xw_C ad cI cZ xs) H → va_S A s.heap H locs → lv_has ls 8 [(0, .ref (ad 0)), (1, .int x1), (2, .int x2)] → W p l e (xk_rm 4 106) s m args below meth c H locs 0 0 Q (F0 m 33 ls []) := by
    intro x1 x2 xs hF H locs ls hP hS hl
    unfold F_All_fear_m33 at hF
    refine lv_aload_n hx hb d_All_fear_33 rfl (lv_at hl 0 rfl) ?_
    refine xk_get (C := R_All) (T := F_All) (N := 9) hx hb hts i_All hown hK hP 0 xw_C_at_0 rfl 4 (by decide) u_238 rfl d_All_fear_34 ?_
    refine lv_iload_n hx hb d_All_fear_37 rfl (lv_at hl 1 rfl) ?_
    obtain ⟨v14, h_v14, hF⟩ := xo_ob hF
    refine xk_goI (xk_runV (As := [.int x1]) (rest := []) hx hb hml hown hts hK hE (fun _ h => h) hP hS ok_Pla_quarterOfPlot in_Pla_quarterOfPlot u_547 (c_Pla_quarterOfPlot l D cI cZ ad A adK adV hDw x1 xs v14 h_v14) (va_recv hK hP (ci := 1) (q0 := 22) rfl xw_C_at_22) (by decide) rfl hl.1 rfl (Nat.le_of_ble_eq_true rfl) d_All_fear_38 ⟨Nat.le_refl _, Nat.le_refl _⟩) (fun _ h => h) hS (fun H locs hP hS => ?_)
    refine lv_istore_n (lv' := [(3, .int v14), (0, .ref (ad 0)), (1, .int x1), (2, .int x2)]) hx hb d_All_fear_41 rfl hl (by decide) rfl (fun ls hl => ?_)
    refine lv_iload_n hx hb d_All_fear_42 rfl (lv_at hl 3 rfl) ?_
    refine lv_if_ne (tgt := 55) hx hb d_All_fear_43 (by decide) (fun c_189 => ?_) (fun c_189 => ?_)
    · replace hF := xo_if_f c_189 hF
      exact mg55 _ _ _ hF _ _ _ hP hS (lv_sub hl [1, 3, 0] rfl)
    · replace hF := xo_if_t c_189 hF
      refine lv_iload_n hx hb d_All_fear_46 rfl (lv_at hl 0 rfl) ?_
      refine lv_bipush (v := (-9 : Int32)) hx hb d_All_fear_47 (by decide) ?_
      refine lv_icmp_ne (tgt := 55) hx hb d_All_fear_49 (by decide) (fun c_190 => ?_) (fun c_190 => ?_)
      · replace hF := xo_if_f c_190 hF
        exact mg55 _ _ _ hF _ _ _ hP hS (lv_sub hl [1, 3, 0] rfl)
      · replace hF := xo_if_t c_190 hF
        refine lv_bipush (v := (-9 : Int32)) hx hb d_All_fear_52 (by decide) ?_
        obtain ⟨q8, q9⟩ := xo_s2 hF
        subst q8
        subst q9
        exact hret 54 _ _ _ d_All_fear_54 rfl hP hS
  refine lv_aload_n hx hb d_All_fear_0 rfl (lv_at hl 0 rfl) ?_
  refine xk_get (C := R_All) (T := F_All) (N := 9) hx hb hts i_All hown hK hP 0 xw_C_at_0 rfl 0 (by decide) u_234 rfl d_All_fear_1 ?_
  refine lv_iload_n hx hb d_All_fear_4 rfl (lv_at hl 1 rfl) ?_
  obtain ⟨v15, h_v15, hF⟩ := xo_ob hF
  refine xk_goI (xk_runV (As := [.int x1]) (rest := []) hx hb hml hown hts hK hE (fun _ h => h) hP hS ok_Tow_hasPlot in_Tow_hasPlot u_461 (c_Tow_hasPlot l D cI cZ ad A adK adV hDw x1 st v15 h_v15) (va_recv hK hP (ci := 2) (q0 := 1) rfl xw_C_at_1) (by decide) rfl hl.1 rfl (Nat.le_of_ble_eq_true rfl) d_All_fear_5 ⟨Nat.le_refl _, Nat.le_refl _⟩) (fun _ h => h) hS (fun H locs hP hS => ?_)
  refine lv_if_ne (tgt := 17) hx hb d_All_fear_8 (by decide) (fun c_191 => ?_) (fun c_191 => ?_)
  · replace hF := xo_if_f c_191 hF
    refine lv_iload_n hx hb d_All_fear_17 rfl (lv_at hl 2 rfl) ?_
    refine lv_if_eq (tgt := 33) hx hb d_All_fear_18 (by decide) (fun c_192 => ?_) (fun c_192 => ?_)
    · replace hF := xo_if_t c_192 hF
      exact mg33 _ _ _ hF _ _ _ hP hS (lv_sub hl [0, 1, 2] rfl)
    · replace hF := xo_if_f c_192 hF
      refine lv_iload_n hx hb d_All_fear_21 rfl (lv_at hl 2 rfl) ?_
      refine lv_iconst (v := (1 : Int32)) hx hb d_All_fear_22 (by decide) ?_
      refine lv_icmp_eq (tgt := 33) hx hb d_All_fear_23 (by decide) (fun c_193 => ?_) (fun c_193 => ?_)
      · replace hF := xo_if_t c_193 hF
        exact mg33 _ _ _ hF _ _ _ hP hS (lv_sub hl [0, 1, 2] rfl)
      · replace hF := xo_if_f c_193 hF
        refine lv_aload_n hx hb d_All_fear_26 rfl (lv_at hl 0 rfl) ?_
        refine lv_bipush (v := (-2 : Int32)) hx hb d_All_fear_27 (by decide) ?_
        obtain ⟨v18, t19, h_v18, hF⟩ := xo_ob2 hF
        refine xk_goI (xk_runV (As := [.int (-2 : Int32)]) (rest := []) hx hb hml hown hts hK hE (fun _ h => h) hP hS ok_All_refuse in_All_refuse u_266 (c_All_refuse l D cI cZ ad A adK adV hDw (-2 : Int32) st v18 t19 h_v18) (va_recv hK hP (ci := 3) (q0 := 0) rfl xw_C_at_0) (by decide) rfl hl.1 rfl (Nat.le_of_ble_eq_true rfl) d_All_fear_29 ⟨Nat.le_refl _, Nat.le_refl _⟩) (fun _ h => h) hS (fun H locs hP hS => ?_)
        obtain ⟨q8, q9⟩ := xo_s2 hF
        subst q8
        subst q9
        exact hret 32 _ _ _ d_All_fear_32 rfl hP hS
  · replace hF := xo_if_t c_191 hF
    refine lv_aload_n hx hb d_All_fear_11 rfl (lv_at hl 0 rfl) ?_
    refine lv_iconst (v := (-1 : Int32)) hx hb d_All_fear_12 (by decide) ?_
    obtain ⟨v16, t17, h_v16, hF⟩ := xo_ob2 hF
    refine xk_goI (xk_runV (As := [.int (-1 : Int32)]) (rest := []) hx hb hml hown hts hK hE (fun _ h => h) hP hS ok_All_refuse in_All_refuse u_266 (c_All_refuse l D cI cZ ad A adK adV hDw (-1 : Int32) st v16 t17 h_v16) (va_recv hK hP (ci := 3) (q0 := 0) rfl xw_C_at_0) (by decide) rfl hl.1 rfl (Nat.le_of_ble_eq_true rfl) d_All_fear_13 ⟨Nat.le_refl _, Nat.le_refl _⟩) (fun _ h => h) hS (fun H locs hP hS => ?_)
    obtain ⟨q8, q9⟩ := xo_s2 hF
    subst q8
    subst q9
    exact hret 16 _ _ _ d_All_fear_16 rfl hP hS
set_option maxHeartbeats 4000000 in
set_option maxRecDepth 100000 in
theorem c_All_dearestStreet (l : Launch) (D : va_G) (cI cZ : ClassId) (ad : Nat → Nat) (A : Nat → Prop) (adK adV : Nat → Nat) (hDw : ∀ st : XS, va_D A (xw_C ad cI cZ st)) (st : XS) (r9 : Int32) (hF : F_All_dearestStreet  st = some r9) : K_I l D cI cZ A adK adV (xw_C ad cI cZ) y_All_dearestStreet b_All_dearestStreet 5 (some .int) 3 67 [.ref (ad 0)] st r9 st := by
  refine xk_startI (by decide) .int rfl (Nat.le_of_ble_eq_true rfl) ?_
  intro p e s m args below meth c Q ls hx hb hml hown hts hK hE hP hS hl hret
  replace hown : s.vm.findClass R_All = some m.cls := hown
  replace hl : lv_has ls 5 [(0, .ref (ad 0))] := hl
  unfold F_All_dearestStreet at hF
  refine lv_bipush (v := (-9 : Int32)) hx hb d_All_dearestStreet_0 (by decide) ?_
  refine lv_istore_n (lv' := [(1, .int (-9 : Int32)), (0, .ref (ad 0))]) hx hb d_All_dearestStreet_2 rfl hl (by decide) rfl (fun ls hl => ?_)
  refine lv_bipush (v := (65 : Int32)) hx hb d_All_dearestStreet_3 (by decide) ?_
  refine lv_istore_n (lv' := [(2, .int (65 : Int32)), (1, .int (-9 : Int32)), (0, .ref (ad 0))]) hx hb d_All_dearestStreet_5 rfl hl (by decide) rfl (fun ls hl => ?_)
  refine lv_iconst (v := (0 : Int32)) hx hb d_All_dearestStreet_6 (by decide) ?_
  refine lv_istore_n (lv' := [(3, .int (0 : Int32)), (2, .int (65 : Int32)), (1, .int (-9 : Int32)), (0, .ref (ad 0))]) hx hb d_All_dearestStreet_7 rfl hl (by decide) rfl (fun ls hl => ?_)
  have lp8 : ∀ (n : Nat) (w8_1 : Int32) (w8_2 : Int32) (w8_3 : Int32) (y : Int32), xo_lp (fun q : (Int32 × Int32 × Int32) => F_All_dearestStreet_b8 st q.1 q.2.1 q.2.2) n (w8_1, w8_2, w8_3) = some y → (∀ (e1 : Int32), e1 = y → ∀ (H : Heap) (locs : List Loc) (ls : Array Slot), va_P D classes (xw_C ad cI cZ st) H → va_S A s.heap H locs → lv_has ls 5 [(1, .int e1)] → W p l e (xk_rm 3 67) s m args below meth c H locs 0 0 Q (F0 m 46 ls [])) → ∀ (H : Heap) (locs : List Loc) (ls : Array Slot), va_P D classes (xw_C ad cI cZ st) H → va_S A s.heap H locs → lv_has ls 5 [(0, .ref (ad 0)), (1, .int w8_1), (2, .int w8_2), (3, .int w8_3)] → W p l e (xk_rm 3 67) s m args below meth c H locs 0 0 Q (F0 m 8 ls []) := by
    intro n
    induction n with
    | zero =>
      intro w8_1 w8_2 w8_3 y hL
      exact nomatch (show (none : Option _) = some y from hL)
    | succ n ih =>
      intro w8_1 w8_2 w8_3 y hL kx0 H locs ls hP hS hl
      obtain ⟨z9, hB, hL⟩ := xo_lp_s hL
      replace hB : F_All_dearestStreet_b8 st w8_1 w8_2 w8_3 = some z9 := hB
      unfold F_All_dearestStreet_b8 at hB
      refine lv_iload_n hx hb d_All_dearestStreet_8 rfl (lv_at hl 3 rfl) ?_
      refine lv_aload_n hx hb d_All_dearestStreet_9 rfl (lv_at hl 0 rfl) ?_
      refine xk_get (C := R_All) (T := F_All) (N := 9) hx hb hts i_All hown hK hP 0 xw_C_at_0 rfl 0 (by decide) u_234 rfl d_All_dearestStreet_10 ?_
      refine xk_get (C := R_Tow) (T := F_Tow) (N := 8) hx hb hts i_Tow hown hK hP 1 xw_C_at_1 rfl 4 (by decide) u_91 rfl d_All_dearestStreet_13 ?_
      refine lv_icmp_ge (tgt := 46) hx hb d_All_dearestStreet_16 (by decide) (fun c_196 => ?_) (fun c_196 => ?_)
      · replace hB := xo_if_t c_196 hB
        have q9 := Option.some.inj hB
        subst q9
        replace hL := Option.some.inj (xo_elR hL)
        subst hL
        exact kx0 _ rfl _ _ _ hP hS (lv_sub hl [1] rfl)
      · replace hB := xo_if_f c_196 hB
        refine lv_aload_n hx hb d_All_dearestStreet_19 rfl (lv_at hl 0 rfl) ?_
        refine xk_get (C := R_All) (T := F_All) (N := 9) hx hb hts i_All hown hK hP 0 xw_C_at_0 rfl 4 (by decide) u_238 rfl d_All_dearestStreet_20 ?_
        refine lv_iload_n hx hb d_All_dearestStreet_23 rfl (lv_at hl 3 rfl) ?_
        obtain ⟨v2, h_v2, hB⟩ := xo_ob hB
        refine xk_goI (xk_runV (As := [.int w8_3]) (rest := []) hx hb hml hown hts hK hE (fun _ h => h) hP hS ok_Pla_quartersWithout in_Pla_quartersWithout u_621 (c_Pla_quartersWithout l D cI cZ ad A adK adV hDw w8_3 st v2 h_v2) (va_recv hK hP (ci := 1) (q0 := 22) rfl xw_C_at_22) (by decide) rfl hl.1 rfl (Nat.le_of_ble_eq_true rfl) d_All_dearestStreet_24 ⟨Nat.le_refl _, Nat.le_refl _⟩) (fun _ h => h) hS (fun H locs hP hS => ?_)
        refine lv_istore (lv' := [(4, .int v2), (0, .ref (ad 0)), (1, .int w8_1), (2, .int w8_2), (3, .int w8_3)]) hx hb d_All_dearestStreet_27 hl (by decide) rfl (fun ls hl => ?_)
        refine lv_iload hx hb d_All_dearestStreet_29 (lv_at hl 0 rfl) ?_
        refine lv_iload_n hx hb d_All_dearestStreet_31 rfl (lv_at hl 3 rfl) ?_
        refine lv_icmp_ge (tgt := 40) hx hb d_All_dearestStreet_32 (by decide) (fun c_197 => ?_) (fun c_197 => ?_)
        · replace hB := xo_if_t c_197 hB
          obtain ⟨v3, e_v3, hB⟩ := xo_nm_e hB
          refine lv_iinc (v := v3) (lv' := [(3, .int v3), (4, .int v2), (0, .ref (ad 0)), (1, .int w8_1), (2, .int w8_2)]) hx hb d_All_dearestStreet_40 hl (k := 4) rfl (by rw [e_v3]; rfl) (by decide) rfl (fun ls hl => ?_)
          clear e_v3
          refine lv_goto (tgt := 8) hx hb d_All_dearestStreet_43 (by decide) ?_
          have q9 := Option.some.inj hB
          subst q9
          exact ih _ _ _ _ (xo_elL hL) kx0 _ _ _ hP hS (lv_sub hl [2, 3, 4, 0] rfl)
        · replace hB := xo_if_f c_197 hB
          refine lv_iload hx hb d_All_dearestStreet_35 (lv_at hl 0 rfl) ?_
          refine lv_istore_n (lv' := [(2, .int v2), (4, .int v2), (0, .ref (ad 0)), (1, .int w8_1), (3, .int w8_3)]) hx hb d_All_dearestStreet_37 rfl hl (by decide) rfl (fun ls hl => ?_)
          refine lv_iload_n hx hb d_All_dearestStreet_38 rfl (lv_at hl 4 rfl) ?_
          refine lv_istore_n (lv' := [(1, .int w8_3), (2, .int v2), (4, .int v2), (0, .ref (ad 0)), (3, .int w8_3)]) hx hb d_All_dearestStreet_39 rfl hl (by decide) rfl (fun ls hl => ?_)
          obtain ⟨v4, e_v4, hB⟩ := xo_nm_e hB
          refine lv_iinc (v := v4) (lv' := [(3, .int v4), (1, .int w8_3), (2, .int v2), (4, .int v2), (0, .ref (ad 0))]) hx hb d_All_dearestStreet_40 hl (k := 4) rfl (by rw [e_v4]; rfl) (by decide) rfl (fun ls hl => ?_)
          clear e_v4
          refine lv_goto (tgt := 8) hx hb d_All_dearestStreet_43 (by decide) ?_
          have q9 := Option.some.inj hB
          subst q9
          exact ih _ _ _ _ (xo_elL hL) kx0 _ _ _ hP hS (lv_sub hl [4, 1, 2, 0] rfl)
  obtain ⟨y8, hL8, hF⟩ := xo_ob hF
  refine lp8 1000000 (-9 : Int32) (65 : Int32) (0 : Int32) y8 hL8 ?_ _ _ _ hP hS (lv_sub hl [3, 2, 1, 0] rfl)
  intro o1 ey H locs ls hP hS hl
  subst ey
  refine lv_iload_n hx hb d_All_dearestStreet_46 rfl (lv_at hl 0 rfl) ?_
  have q9 := Option.some.inj hF
  subst q9
  exact hret 47 _ _ _ d_All_dearestStreet_47 rfl hP hS
set_option maxHeartbeats 4000000 in
set_option maxRecDepth 100000 in
theorem c_All_taken (l : Launch) (D : va_G) (cI cZ : ClassId) (ad : Nat → Nat) (A : Nat → Prop) (adK adV : Nat → Nat) (hDw : ∀ st : XS, va_D A (xw_C ad cI cZ st)) (x1 : Int32) (st : XS) (r9 : Int32) (st9 : XS) (hF : F_All_taken x1 st = some (r9, st9)) : K_I l D cI cZ A adK adV (xw_C ad cI cZ) y_All_taken b_All_taken 2 (some .int) 4 91 [.ref (ad 0), .int x1] st r9 st9 := by
  refine xk_startI (by decide) .int rfl (Nat.le_of_ble_eq_true rfl) ?_
  intro p e s m args below meth c Q ls hx hb hml hown hts hK hE hP hS hl hret
  replace hown : s.vm.findClass R_All = some m.cls := hown
  replace hl : lv_has ls 2 [(0, .ref (ad 0)), (1, .int x1)] := hl
  unfold F_All_taken at hF
  refine lv_iload_n hx hb d_All_taken_0 rfl (lv_at hl 1 rfl) ?_
  refine lv_iconst (v := (-1 : Int32)) hx hb d_All_taken_1 (by decide) ?_
  refine lv_icmp_ne (tgt := 10) hx hb d_All_taken_2 (by decide) (fun c_198 => ?_) (fun c_198 => ?_)
  · replace hF := xo_if_f c_198 hF
    refine lv_aload_n hx hb d_All_taken_10 rfl (lv_at hl 0 rfl) ?_
    refine xk_get (C := R_All) (T := F_All) (N := 9) hx hb hts i_All hown hK hP 0 xw_C_at_0 rfl 0 (by decide) u_234 rfl d_All_taken_11 ?_
    refine lv_iload_n hx hb d_All_taken_14 rfl (lv_at hl 1 rfl) ?_
    obtain ⟨v2, h_v2, hF⟩ := xo_ob hF
    refine xk_goI (xk_runV (As := [.int x1]) (rest := []) hx hb hml hown hts hK hE (fun _ h => h) hP hS ok_Tow_hasStreet in_Tow_hasStreet u_430 (c_Tow_hasStreet l D cI cZ ad A adK adV hDw x1 st v2 h_v2) (va_recv hK hP (ci := 2) (q0 := 1) rfl xw_C_at_1) (by decide) rfl hl.1 rfl (Nat.le_of_ble_eq_true rfl) d_All_taken_15 ⟨Nat.le_refl _, Nat.le_refl _⟩) (fun _ h => h) hS (fun H locs hP hS => ?_)
    refine lv_if_eq (tgt := 32) hx hb d_All_taken_18 (by decide) (fun c_199 => ?_) (fun c_199 => ?_)
    · replace hF := xo_if_t c_199 hF
      refine lv_aload_n hx hb d_All_taken_32 rfl (lv_at hl 0 rfl) ?_
      refine lv_iconst (v := (-1 : Int32)) hx hb d_All_taken_33 (by decide) ?_
      obtain ⟨v3, t4, h_v3, hF⟩ := xo_ob2 hF
      refine xk_goI (xk_runV (As := [.int (-1 : Int32)]) (rest := []) hx hb hml hown hts hK hE (fun _ h => h) hP hS ok_All_refuse in_All_refuse u_266 (c_All_refuse l D cI cZ ad A adK adV hDw (-1 : Int32) st v3 t4 h_v3) (va_recv hK hP (ci := 3) (q0 := 0) rfl xw_C_at_0) (by decide) rfl hl.1 rfl (Nat.le_of_ble_eq_true rfl) d_All_taken_34 ⟨Nat.le_refl _, Nat.le_refl _⟩) (fun _ h => h) hS (fun H locs hP hS => ?_)
      obtain ⟨q8, q9⟩ := xo_s2 hF
      subst q8
      subst q9
      exact hret 37 _ _ _ d_All_taken_37 rfl hP hS
    · replace hF := xo_if_f c_199 hF
      refine lv_aload_n hx hb d_All_taken_21 rfl (lv_at hl 0 rfl) ?_
      refine xk_get (C := R_All) (T := F_All) (N := 9) hx hb hts i_All hown hK hP 0 xw_C_at_0 rfl 4 (by decide) u_238 rfl d_All_taken_22 ?_
      refine lv_iload_n hx hb d_All_taken_25 rfl (lv_at hl 1 rfl) ?_
      obtain ⟨v5, h_v5, hF⟩ := xo_ob hF
      refine xk_goI (xk_runV (As := [.int x1]) (rest := []) hx hb hml hown hts hK hE (fun _ h => h) hP hS ok_Pla_quartersWithout in_Pla_quartersWithout u_621 (c_Pla_quartersWithout l D cI cZ ad A adK adV hDw x1 st v5 h_v5) (va_recv hK hP (ci := 1) (q0 := 22) rfl xw_C_at_22) (by decide) rfl hl.1 rfl (Nat.le_of_ble_eq_true rfl) d_All_taken_26 ⟨Nat.le_refl _, Nat.le_refl _⟩) (fun _ h => h) hS (fun H locs hP hS => ?_)
      refine lv_goto (tgt := 37) hx hb d_All_taken_29 (by decide) ?_
      obtain ⟨q8, q9⟩ := xo_s2 hF
      subst q8
      subst q9
      exact hret 37 _ _ _ d_All_taken_37 rfl hP hS
  · replace hF := xo_if_t c_198 hF
    refine lv_aload_n hx hb d_All_taken_5 rfl (lv_at hl 0 rfl) ?_
    obtain ⟨v1, h_v1, hF⟩ := xo_ob hF
    refine xk_goI (xk_runV (As := []) (rest := []) hx hb hml hown hts hK hE (fun _ h => h) hP hS ok_All_dearestStreet in_All_dearestStreet u_617 (c_All_dearestStreet l D cI cZ ad A adK adV hDw st v1 h_v1) (va_recv hK hP (ci := 3) (q0 := 0) rfl xw_C_at_0) (by decide) rfl hl.1 rfl (Nat.le_of_ble_eq_true rfl) d_All_taken_6 ⟨Nat.le_refl _, Nat.le_refl _⟩) (fun _ h => h) hS (fun H locs hP hS => ?_)
    obtain ⟨q8, q9⟩ := xo_s2 hF
    subst q8
    subst q9
    exact hret 9 _ _ _ d_All_taken_9 rfl hP hS
set_option maxHeartbeats 4000000 in
set_option maxRecDepth 100000 in
theorem c_All_row (l : Launch) (D : va_G) (cI cZ : ClassId) (ad : Nat → Nat) (A : Nat → Prop) (adK adV : Nat → Nat) (hDw : ∀ st : XS, va_D A (xw_C ad cI cZ st)) (x1 : Int32) (st : XS) (r9 : Int32) (st9 : XS) (hF : F_All_row x1 st = some (r9, st9)) : K_I l D cI cZ A adK adV (xw_C ad cI cZ) y_All_row b_All_row 2 (some .int) 1 22 [.ref (ad 0), .int x1] st r9 st9 := by
  refine xk_startI (by decide) .int rfl (Nat.le_of_ble_eq_true rfl) ?_
  intro p e s m args below meth c Q ls hx hb hml hown hts hK hE hP hS hl hret
  replace hown : s.vm.findClass R_All = some m.cls := hown
  replace hl : lv_has ls 2 [(0, .ref (ad 0)), (1, .int x1)] := hl
  unfold F_All_row at hF
  have mg29 : ∀ (xs : XS), F_All_row_m29 xs = some (r9, st9) → ∀ (H : Heap) (locs : List Loc) (ls : Array Slot), va_P D classes (xw_C ad cI cZ xs) H → va_S A s.heap H locs → lv_has ls 2 [(0, .ref (ad 0))] → W p l e (xk_rm 1 22) s m args below meth c H locs 0 0 Q (F0 m 29 ls []) := by
    intro xs hF H locs ls hP hS hl
    unfold F_All_row_m29 at hF
    refine lv_aload_n hx hb d_All_row_29 rfl (lv_at hl 0 rfl) ?_
    refine lv_bipush (v := (-6 : Int32)) hx hb d_All_row_30 (by decide) ?_
    obtain ⟨v1, t2, h_v1, hF⟩ := xo_ob2 hF
    refine xk_goI (xk_runV (As := [.int (-6 : Int32)]) (rest := []) hx hb hml hown hts hK hE (fun _ h => h) hP hS ok_All_refuse in_All_refuse u_266 (c_All_refuse l D cI cZ ad A adK adV hDw (-6 : Int32) xs v1 t2 h_v1) (va_recv hK hP (ci := 3) (q0 := 0) rfl xw_C_at_0) (by decide) rfl hl.1 rfl (Nat.le_of_ble_eq_true rfl) d_All_row_32 ⟨Nat.le_refl _, Nat.le_refl _⟩) (fun _ h => h) hS (fun H locs hP hS => ?_)
    obtain ⟨q8, q9⟩ := xo_s2 hF
    subst q8
    subst q9
    exact hret 35 _ _ _ d_All_row_35 rfl hP hS
  refine lv_iload_n hx hb d_All_row_0 rfl (lv_at hl 1 rfl) ?_
  refine lv_if_ge (tgt := 11) hx hb d_All_row_1 (by decide) (fun c_200 => ?_) (fun c_200 => ?_)
  · replace hF := xo_if_t c_200 hF
    refine lv_iload_n hx hb d_All_row_11 rfl (lv_at hl 1 rfl) ?_
    refine lv_bipush (v := (64 : Int32)) hx hb d_All_row_12 (by decide) ?_
    refine lv_icmp_ge (tgt := 29) hx hb d_All_row_14 (by decide) (fun c_201 => ?_) (fun c_201 => ?_)
    · replace hF := xo_if_t c_201 hF
      exact mg29 _ hF _ _ _ hP hS (lv_sub hl [0] rfl)
    · replace hF := xo_if_f c_201 hF
      refine lv_aload_n hx hb d_All_row_17 rfl (lv_at hl 0 rfl) ?_
      refine xk_get (C := R_All) (T := F_All) (N := 9) hx hb hts i_All hown hK hP 0 xw_C_at_0 rfl 7 (by decide) u_241 rfl d_All_row_18 ?_
      refine lv_aload_n hx hb d_All_row_21 rfl (lv_at hl 0 rfl) ?_
      refine xk_get (C := R_All) (T := F_All) (N := 9) hx hb hts i_All hown hK hP 0 xw_C_at_0 rfl 6 (by decide) u_240 rfl d_All_row_22 ?_
      refine va_alen (v := (12 : Int32)) hx hb hK hP 31 0 xw_C_at_31 rfl rfl d_All_row_25 ?_
      refine lv_icmp_lt (tgt := 36) hx hb d_All_row_26 (by decide) (fun c_202 => ?_) (fun c_202 => ?_)
      · replace hF := xo_if_t c_202 hF
        refine lv_aload_n hx hb d_All_row_36 rfl (lv_at hl 0 rfl) ?_
        refine xk_get (C := R_All) (T := F_All) (N := 9) hx hb hts i_All hown hK hP 0 xw_C_at_0 rfl 6 (by decide) u_240 rfl d_All_row_37 ?_
        refine lv_aload_n hx hb d_All_row_40 rfl (lv_at hl 0 rfl) ?_
        refine xk_get (C := R_All) (T := F_All) (N := 9) hx hb hts i_All hown hK hP 0 xw_C_at_0 rfl 7 (by decide) u_241 rfl d_All_row_41 ?_
        refine lv_iload_n hx hb d_All_row_44 rfl (lv_at hl 1 rfl) ?_
        obtain ⟨_, h_t3, hF⟩ := xo_ob hF
        obtain ⟨t3, e_t3, hF⟩ := xo_nm_e hF
        refine xk_iast hx hb hK hP (hDw _) hS 31 xw_C_at_31 h_t3 (xw_C_set_31 _) d_All_row_45 (fun H locs hP hS => ?_)
        replace hP : va_P D classes (xw_C ad cI cZ t3) H := by rw [e_t3]; exact hP
        clear e_t3
        refine lv_aload_n hx hb d_All_row_46 rfl (lv_at hl 0 rfl) ?_
        refine lv_dup hx hb d_All_row_47 rfl ?_
        refine xk_get (C := R_All) (T := F_All) (N := 9) hx hb hts i_All hown hK hP 0 xw_C_at_0 rfl 7 (by decide) u_241 rfl d_All_row_48 ?_
        refine lv_iconst (v := (1 : Int32)) hx hb d_All_row_51 (by decide) ?_
        refine lv_iadd hx hb d_All_row_52 ?_
        obtain ⟨t4, e_t4, hF⟩ := xo_nm_e hF
        refine xk_put (C := R_All) (T := F_All) (N := 9) (ty := .int) hx hb hts i_All t_All t_All_ok n_All hown hK hP (hDw _) hS 0 xw_C_at_0 rfl 7 (by decide) u_241 rfl (by decide +kernel) rfl rfl (Nat.le_of_ble_eq_true rfl) (xw_C_put_0_7 _) d_All_row_53 (fun H locs hP hS => ?_)
        replace hP : va_P D classes (xw_C ad cI cZ t4) H := by rw [e_t4]; exact hP
        clear e_t4
        refine lv_aload_n hx hb d_All_row_56 rfl (lv_at hl 0 rfl) ?_
        refine xk_get (C := R_All) (T := F_All) (N := 9) hx hb hts i_All hown hK hP 0 xw_C_at_0 rfl 7 (by decide) u_241 rfl d_All_row_57 ?_
        obtain ⟨q8, q9⟩ := xo_s2 hF
        subst q8
        subst q9
        exact hret 60 _ _ _ d_All_row_60 rfl hP hS
      · replace hF := xo_if_f c_202 hF
        exact mg29 _ hF _ _ _ hP hS (lv_sub hl [0] rfl)
  · replace hF := xo_if_f c_200 hF
    refine lv_aload_n hx hb d_All_row_4 rfl (lv_at hl 0 rfl) ?_
    refine lv_bipush (v := (-4 : Int32)) hx hb d_All_row_5 (by decide) ?_
    obtain ⟨v5, t6, h_v5, hF⟩ := xo_ob2 hF
    refine xk_goI (xk_runV (As := [.int (-4 : Int32)]) (rest := []) hx hb hml hown hts hK hE (fun _ h => h) hP hS ok_All_refuse in_All_refuse u_266 (c_All_refuse l D cI cZ ad A adK adV hDw (-4 : Int32) st v5 t6 h_v5) (va_recv hK hP (ci := 3) (q0 := 0) rfl xw_C_at_0) (by decide) rfl hl.1 rfl (Nat.le_of_ble_eq_true rfl) d_All_row_7 ⟨Nat.le_refl _, Nat.le_refl _⟩) (fun _ h => h) hS (fun H locs hP hS => ?_)
    obtain ⟨q8, q9⟩ := xo_s2 hF
    subst q8
    subst q9
    exact hret 10 _ _ _ d_All_row_10 rfl hP hS
set_option maxHeartbeats 4000000 in
set_option maxRecDepth 100000 in
theorem c_All_judge (l : Launch) (D : va_G) (cI cZ : ClassId) (ad : Nat → Nat) (A : Nat → Prop) (adK adV : Nat → Nat) (hDw : ∀ st : XS, va_D A (xw_C ad cI cZ st)) (st : XS) (r9 : Int32) (st9 : XS) (hF : F_All_judge  st = some (r9, st9)) : K_I l D cI cZ A adK adV (xw_C ad cI cZ) y_All_judge b_All_judge 3 (some .int) 2 43 [.ref (ad 0)] st r9 st9 := by
  refine xk_startI (by decide) .int rfl (Nat.le_of_ble_eq_true rfl) ?_
  intro p e s m args below meth c Q ls hx hb hml hown hts hK hE hP hS hl hret
  replace hown : s.vm.findClass R_All = some m.cls := hown
  replace hl : lv_has ls 3 [(0, .ref (ad 0))] := hl
  unfold F_All_judge at hF
  refine lv_aload_n hx hb d_All_judge_0 rfl (lv_at hl 0 rfl) ?_
  refine xk_get (C := R_All) (T := F_All) (N := 9) hx hb hts i_All hown hK hP 0 xw_C_at_0 rfl 7 (by decide) u_241 rfl d_All_judge_1 ?_
  refine lv_topi (fun v1 e_v1 => ?_)
  replace hF := xo_nm_u hF e_v1
  clear e_v1
  refine lv_istore_n (lv' := [(1, .int v1), (0, .ref (ad 0))]) hx hb d_All_judge_4 rfl hl (by decide) rfl (fun ls hl => ?_)
  refine lv_aload_n hx hb d_All_judge_5 rfl (lv_at hl 1 rfl) ?_
  refine lv_iconst (v := (0 : Int32)) hx hb d_All_judge_6 (by decide) ?_
  obtain ⟨t2, e_t2, hF⟩ := xo_nm_e hF
  refine xk_put (C := R_All) (T := F_All) (N := 9) (ty := .int) hx hb hts i_All t_All t_All_ok n_All hown hK hP (hDw _) hS 0 xw_C_at_0 rfl 7 (by decide) u_241 rfl (by decide +kernel) rfl rfl (Nat.le_of_ble_eq_true rfl) (xw_C_put_0_7 _) d_All_judge_7 (fun H locs hP hS => ?_)
  replace hP : va_P D classes (xw_C ad cI cZ t2) H := by rw [e_t2]; exact hP
  clear e_t2
  refine lv_iconst (v := (0 : Int32)) hx hb d_All_judge_10 (by decide) ?_
  refine lv_istore_n (lv' := [(2, .int (0 : Int32)), (1, .int v1), (0, .ref (ad 0))]) hx hb d_All_judge_11 rfl hl (by decide) rfl (fun ls hl => ?_)
  have lp12 : ∀ (n : Nat) (w12_2 : Int32) (y : (Int32 ⊕ Int32 ⊕ Unit)), xo_lp (fun q : Int32 => F_All_judge_b12 v1 t2 q) n w12_2 = some y → (∀ (e2 : Int32), (.inl e2) = y → ∀ (H : Heap) (locs : List Loc) (ls : Array Slot), va_P D classes (xw_C ad cI cZ t2) H → va_S A s.heap H locs → lv_has ls 3 [(2, .int e2)] → W p l e (xk_rm 2 43) s m args below meth c H locs 0 0 Q (F0 m 33 ls [])) → (∀ (e2 : Int32), (.inr (.inl e2)) = y → ∀ (H : Heap) (locs : List Loc) (ls : Array Slot), va_P D classes (xw_C ad cI cZ t2) H → va_S A s.heap H locs → lv_has ls 3 [(2, .int e2)] → W p l e (xk_rm 2 43) s m args below meth c H locs 0 0 Q (F0 m 61 ls [])) → ((.inr (.inr ())) = y → ∀ (H : Heap) (locs : List Loc) (ls : Array Slot), va_P D classes (xw_C ad cI cZ t2) H → va_S A s.heap H locs → lv_has ls 3 [] → W p l e (xk_rm 2 43) s m args below meth c H locs 0 0 Q (F0 m 69 ls [])) → ∀ (H : Heap) (locs : List Loc) (ls : Array Slot), va_P D classes (xw_C ad cI cZ t2) H → va_S A s.heap H locs → lv_has ls 3 [(0, .ref (ad 0)), (1, .int v1), (2, .int w12_2)] → W p l e (xk_rm 2 43) s m args below meth c H locs 0 0 Q (F0 m 12 ls []) := by
    intro n
    induction n with
    | zero =>
      intro w12_2 y hL
      exact nomatch (show (none : Option _) = some y from hL)
    | succ n ih =>
      intro w12_2 y hL kx0 kx1 kx2 H locs ls hP hS hl
      obtain ⟨z9, hB, hL⟩ := xo_lp_s hL
      replace hB : F_All_judge_b12 v1 t2 w12_2 = some z9 := hB
      unfold F_All_judge_b12 at hB
      refine lv_iload_n hx hb d_All_judge_12 rfl (lv_at hl 2 rfl) ?_
      refine lv_iload_n hx hb d_All_judge_13 rfl (lv_at hl 1 rfl) ?_
      refine lv_icmp_ge (tgt := 69) hx hb d_All_judge_14 (by decide) (fun c_203 => ?_) (fun c_203 => ?_)
      · replace hB := xo_if_t c_203 hB
        have q9 := Option.some.inj hB
        subst q9
        replace hL := Option.some.inj (xo_elR hL)
        subst hL
        exact kx2  rfl _ _ _ hP hS (lv_sub hl [] rfl)
      · replace hB := xo_if_f c_203 hB
        refine lv_aload_n hx hb d_All_judge_17 rfl (lv_at hl 0 rfl) ?_
        refine xk_get (C := R_All) (T := F_All) (N := 9) hx hb hts i_All hown hK hP 0 xw_C_at_0 rfl 4 (by decide) u_238 rfl d_All_judge_18 ?_
        refine lv_aload_n hx hb d_All_judge_21 rfl (lv_at hl 0 rfl) ?_
        refine xk_get (C := R_All) (T := F_All) (N := 9) hx hb hts i_All hown hK hP 0 xw_C_at_0 rfl 6 (by decide) u_240 rfl d_All_judge_22 ?_
        refine lv_iload_n hx hb d_All_judge_25 rfl (lv_at hl 2 rfl) ?_
        obtain ⟨v5, h_v5, hB⟩ := xo_ob hB
        refine xk_iald hx hb hK hP 31 xw_C_at_31 h_v5 d_All_judge_26 ?_
        obtain ⟨v6, h_v6, hB⟩ := xo_ob hB
        refine xk_goI (xk_runV (As := [.int v5]) (rest := []) hx hb hml hown hts hK hE (fun _ h => h) hP hS ok_Pla_hasQuarter in_Pla_hasQuarter u_493 (c_Pla_hasQuarter l D cI cZ ad A adK adV hDw v5 t2 v6 h_v6) (va_recv hK hP (ci := 1) (q0 := 22) rfl xw_C_at_22) (by decide) rfl hl.1 rfl (Nat.le_of_ble_eq_true rfl) d_All_judge_27 ⟨Nat.le_refl _, Nat.le_refl _⟩) (fun _ h => h) hS (fun H locs hP hS => ?_)
        refine lv_if_ne (tgt := 35) hx hb d_All_judge_30 (by decide) (fun c_204 => ?_) (fun c_204 => ?_)
        · replace hB := xo_if_f c_204 hB
          refine lv_iload_n hx hb d_All_judge_35 rfl (lv_at hl 2 rfl) ?_
          refine lv_if_le (tgt := 63) hx hb d_All_judge_36 (by decide) (fun c_205 => ?_) (fun c_205 => ?_)
          · replace hB := xo_if_t c_205 hB
            obtain ⟨v7, e_v7, hB⟩ := xo_nm_e hB
            refine lv_iinc (v := v7) (lv' := [(2, .int v7), (0, .ref (ad 0)), (1, .int v1)]) hx hb d_All_judge_63 hl (k := 2) rfl (by rw [e_v7]; rfl) (by decide) rfl (fun ls hl => ?_)
            clear e_v7
            refine lv_goto (tgt := 12) hx hb d_All_judge_66 (by decide) ?_
            have q9 := Option.some.inj hB
            subst q9
            exact ih _ _ (xo_elL hL) kx0 kx1 kx2 _ _ _ hP hS (lv_sub hl [1, 2, 0] rfl)
          · replace hB := xo_if_f c_205 hB
            refine lv_aload_n hx hb d_All_judge_39 rfl (lv_at hl 0 rfl) ?_
            refine xk_get (C := R_All) (T := F_All) (N := 9) hx hb hts i_All hown hK hP 0 xw_C_at_0 rfl 6 (by decide) u_240 rfl d_All_judge_40 ?_
            refine lv_iload_n hx hb d_All_judge_43 rfl (lv_at hl 2 rfl) ?_
            obtain ⟨v8, h_v8, hB⟩ := xo_ob hB
            refine xk_iald hx hb hK hP 31 xw_C_at_31 h_v8 d_All_judge_44 ?_
            refine lv_aload_n hx hb d_All_judge_45 rfl (lv_at hl 0 rfl) ?_
            refine xk_get (C := R_All) (T := F_All) (N := 9) hx hb hts i_All hown hK hP 0 xw_C_at_0 rfl 6 (by decide) u_240 rfl d_All_judge_46 ?_
            refine lv_iload_n hx hb d_All_judge_49 rfl (lv_at hl 2 rfl) ?_
            refine lv_iconst (v := (1 : Int32)) hx hb d_All_judge_50 (by decide) ?_
            refine lv_isub hx hb d_All_judge_51 ?_
            obtain ⟨v9, h_v9, hB⟩ := xo_ob hB
            refine xk_iald hx hb hK hP 31 xw_C_at_31 h_v9 d_All_judge_52 ?_
            refine lv_ixor hx hb d_All_judge_53 ?_
            obtain ⟨v10, h_v10, hB⟩ := xo_ob hB
            refine xk_goI (xk_runS (As := [.int (v8 ^^^ v9)]) (rest := []) hx hb hml hown hts hK hE (fun _ h => h) hP hS ok_Int_bitCount st_Int_bitCount u_564 (c_Int_bitCount l D cI cZ (xw_C ad cI cZ) A adK adV (v8 ^^^ v9) t2 v10 h_v10) (by decide) rfl hl.1 rfl (Nat.le_of_ble_eq_true rfl) d_All_judge_54 ⟨Nat.le_refl _, Nat.le_refl _⟩) (fun _ h => h) hS (fun H locs hP hS => ?_)
            refine lv_iconst (v := (1 : Int32)) hx hb d_All_judge_57 (by decide) ?_
            refine lv_icmp_eq (tgt := 63) hx hb d_All_judge_58 (by decide) (fun c_206 => ?_) (fun c_206 => ?_)
            · replace hB := xo_if_t c_206 hB
              obtain ⟨v11, e_v11, hB⟩ := xo_nm_e hB
              refine lv_iinc (v := v11) (lv' := [(2, .int v11), (0, .ref (ad 0)), (1, .int v1)]) hx hb d_All_judge_63 hl (k := 2) rfl (by rw [e_v11]; rfl) (by decide) rfl (fun ls hl => ?_)
              clear e_v11
              refine lv_goto (tgt := 12) hx hb d_All_judge_66 (by decide) ?_
              have q9 := Option.some.inj hB
              subst q9
              exact ih _ _ (xo_elL hL) kx0 kx1 kx2 _ _ _ hP hS (lv_sub hl [1, 2, 0] rfl)
            · replace hB := xo_if_f c_206 hB
              have q9 := Option.some.inj hB
              subst q9
              replace hL := Option.some.inj (xo_elR hL)
              subst hL
              exact kx1 _ rfl _ _ _ hP hS (lv_sub hl [2] rfl)
        · replace hB := xo_if_t c_204 hB
          have q9 := Option.some.inj hB
          subst q9
          replace hL := Option.some.inj (xo_elR hL)
          subst hL
          exact kx0 _ rfl _ _ _ hP hS (lv_sub hl [2] rfl)
  obtain ⟨y12, hL12, hF⟩ := xo_ob hF
  refine lp12 1000000 (0 : Int32) y12 hL12 ?_ ?_ ?_ _ _ _ hP hS (lv_sub hl [2, 1, 0] rfl)
  · intro o3 ey H locs ls hP hS hl
    subst ey
    replace hF := xo_elL hF
    refine lv_iload_n hx hb d_All_judge_33 rfl (lv_at hl 0 rfl) ?_
    obtain ⟨q8, q9⟩ := xo_s2 hF
    subst q8
    subst q9
    exact hret 34 _ _ _ d_All_judge_34 rfl hP hS
  · intro o4 ey H locs ls hP hS hl
    subst ey
    replace hF := xo_elL (xo_elR hF)
    refine lv_iload_n hx hb d_All_judge_61 rfl (lv_at hl 0 rfl) ?_
    obtain ⟨q8, q9⟩ := xo_s2 hF
    subst q8
    subst q9
    exact hret 62 _ _ _ d_All_judge_62 rfl hP hS
  · intro  ey H locs ls hP hS hl
    subst ey
    replace hF := xo_elR (xo_elR hF)
    refine lv_bipush (v := (-9 : Int32)) hx hb d_All_judge_69 (by decide) ?_
    obtain ⟨q8, q9⟩ := xo_s2 hF
    subst q8
    subst q9
    exact hret 71 _ _ _ d_All_judge_71 rfl hP hS
set_option maxHeartbeats 4000000 in
set_option maxRecDepth 100000 in
theorem c_All_seedAfter (l : Launch) (D : va_G) (cI cZ : ClassId) (ad : Nat → Nat) (A : Nat → Prop) (adK adV : Nat → Nat) (hDw : ∀ st : XS, va_D A (xw_C ad cI cZ st)) (x0 : Int32) (st : XS) (r9 : Int32) (hF : F_All_seedAfter x0 = some r9) : K_I l D cI cZ A adK adV (xw_C ad cI cZ) y_All_seedAfter b_All_seedAfter 1 (some .int) 0 0 [.int x0] st r9 st := by
  refine xk_startI (by decide) .int rfl (Nat.le_of_ble_eq_true rfl) ?_
  intro p e s m args below meth c Q ls hx hb hml hown hts hK hE hP hS hl hret
  replace hown : s.vm.findClass R_All = some m.cls := hown
  replace hl : lv_has ls 1 [(0, .int x0)] := hl
  unfold F_All_seedAfter at hF
  refine lv_iload_n hx hb d_All_seedAfter_0 rfl (lv_at hl 0 rfl) ?_
  refine lv_ldc (v := (1664525 : Int32)) hx hb hown (hts _ u_641) d_All_seedAfter_1 ?_
  refine lv_imul hx hb d_All_seedAfter_3 ?_
  refine lv_ldc (v := (1013904223 : Int32)) hx hb hown (hts _ u_642) d_All_seedAfter_4 ?_
  refine lv_iadd hx hb d_All_seedAfter_6 ?_
  have q9 := Option.some.inj hF
  subst q9
  exact hret 7 _ _ _ d_All_seedAfter_7 rfl hP hS
set_option maxHeartbeats 4000000 in
set_option maxRecDepth 100000 in
theorem c_All_placeDrawn (l : Launch) (D : va_G) (cI cZ : ClassId) (ad : Nat → Nat) (A : Nat → Prop) (adK adV : Nat → Nat) (hDw : ∀ st : XS, va_D A (xw_C ad cI cZ st)) (x0 : Int32) (st : XS) (r9 : Int32) (hF : F_All_placeDrawn x0 = some r9) : K_I l D cI cZ A adK adV (xw_C ad cI cZ) y_All_placeDrawn b_All_placeDrawn 1 (some .int) 0 0 [.int x0] st r9 st := by
  refine xk_startI (by decide) .int rfl (Nat.le_of_ble_eq_true rfl) ?_
  intro p e s m args below meth c Q ls hx hb hml hown hts hK hE hP hS hl hret
  replace hown : s.vm.findClass R_All = some m.cls := hown
  replace hl : lv_has ls 1 [(0, .int x0)] := hl
  unfold F_All_placeDrawn at hF
  refine lv_iload_n hx hb d_All_placeDrawn_0 rfl (lv_at hl 0 rfl) ?_
  refine lv_ldc (v := (2147483647 : Int32)) hx hb hown (hts _ u_646) d_All_placeDrawn_1 ?_
  refine lv_iand hx hb d_All_placeDrawn_3 ?_
  refine lv_sipush (v := (256 : Int32)) hx hb d_All_placeDrawn_4 (by decide) ?_
  obtain ⟨v1, h_v1, hF⟩ := xo_ob hF
  refine xk_idiv hx hb d_All_placeDrawn_7 h_v1 ?_
  refine lv_bipush (v := (41 : Int32)) hx hb d_All_placeDrawn_8 (by decide) ?_
  obtain ⟨v2, h_v2, hF⟩ := xo_ob hF
  refine xk_irem hx hb d_All_placeDrawn_10 h_v2 ?_
  refine lv_bipush (v := (20 : Int32)) hx hb d_All_placeDrawn_11 (by decide) ?_
  refine lv_isub hx hb d_All_placeDrawn_13 ?_
  have q9 := Option.some.inj hF
  subst q9
  exact hret 14 _ _ _ d_All_placeDrawn_14 rfl hP hS
set_option maxHeartbeats 4000000 in
set_option maxRecDepth 100000 in
theorem c_All_seeds (l : Launch) (D : va_G) (cI cZ : ClassId) (ad : Nat → Nat) (A : Nat → Prop) (adK adV : Nat → Nat) (hDw : ∀ st : XS, va_D A (xw_C ad cI cZ st)) (x1 : Int32) (x2 : Int32) (st : XS) (r9 : Int32) (st9 : XS) (hF : F_All_seeds x1 x2 st = some (r9, st9)) : K_I l D cI cZ A adK adV (xw_C ad cI cZ) y_All_seeds b_All_seeds 10 (some .int) 3 71 [.ref (ad 0), .int x1, .int x2] st r9 st9 := by
  refine xk_startI (by decide) .int rfl (Nat.le_of_ble_eq_true rfl) ?_
  intro p e s m args below meth c Q ls hx hb hml hown hts hK hE hP hS hl hret
  replace hown : s.vm.findClass R_All = some m.cls := hown
  replace hl : lv_has ls 10 [(0, .ref (ad 0)), (1, .int x1), (2, .int x2)] := hl
  unfold F_All_seeds at hF
  refine lv_iload_n hx hb d_All_seeds_0 rfl (lv_at hl 1 rfl) ?_
  refine lv_iconst (v := (1 : Int32)) hx hb d_All_seeds_1 (by decide) ?_
  refine lv_icmp_ge (tgt := 12) hx hb d_All_seeds_2 (by decide) (fun c_207 => ?_) (fun c_207 => ?_)
  · replace hF := xo_if_t c_207 hF
    refine lv_iload_n hx hb d_All_seeds_12 rfl (lv_at hl 1 rfl) ?_
    refine lv_bipush (v := (30 : Int32)) hx hb d_All_seeds_13 (by decide) ?_
    refine lv_icmp_le (tgt := 25) hx hb d_All_seeds_15 (by decide) (fun c_208 => ?_) (fun c_208 => ?_)
    · replace hF := xo_if_t c_208 hF
      refine lv_iload_n hx hb d_All_seeds_25 rfl (lv_at hl 2 rfl) ?_
      refine lv_istore_n (lv' := [(3, .int x2), (0, .ref (ad 0)), (1, .int x1), (2, .int x2)]) hx hb d_All_seeds_26 rfl hl (by decide) rfl (fun ls hl => ?_)
      refine lv_lconst (v := (0 : Int64)) hx hb d_All_seeds_27 (by decide) ?_
      refine lv_lstore (lv' := [(4, .long (0 : Int64)), (3, .int x2), (0, .ref (ad 0)), (1, .int x1), (2, .int x2)]) hx hb d_All_seeds_28 hl (by decide) rfl (fun ls hl => ?_)
      refine lv_iconst (v := (0 : Int32)) hx hb d_All_seeds_30 (by decide) ?_
      refine lv_istore (lv' := [(6, .int (0 : Int32)), (4, .long (0 : Int64)), (3, .int x2), (0, .ref (ad 0)), (1, .int x1), (2, .int x2)]) hx hb d_All_seeds_31 hl (by decide) rfl (fun ls hl => ?_)
      have lp33 : ∀ (n : Nat) (w33_3 : Int32) (w33_4 : Int64) (w33_6 : Int32) (y : Int64), xo_lp (fun q : (Int32 × Int64 × Int32) => F_All_seeds_b33 x1 st q.1 q.2.1 q.2.2) n (w33_3, w33_4, w33_6) = some y → (∀ (e4 : Int64), e4 = y → ∀ (H : Heap) (locs : List Loc) (ls : Array Slot), va_P D classes (xw_C ad cI cZ st) H → va_S A s.heap H locs → lv_has ls 10 [(4, .long e4)] → W p l e (xk_rm 3 71) s m args below meth c H locs 0 0 Q (F0 m 96 ls [])) → ∀ (H : Heap) (locs : List Loc) (ls : Array Slot), va_P D classes (xw_C ad cI cZ st) H → va_S A s.heap H locs → lv_has ls 10 [(0, .ref (ad 0)), (1, .int x1), (3, .int w33_3), (4, .long w33_4), (6, .int w33_6)] → W p l e (xk_rm 3 71) s m args below meth c H locs 0 0 Q (F0 m 33 ls []) := by
        intro n
        induction n with
        | zero =>
          intro w33_3 w33_4 w33_6 y hL
          exact nomatch (show (none : Option _) = some y from hL)
        | succ n ih =>
          intro w33_3 w33_4 w33_6 y hL kx0 H locs ls hP hS hl
          obtain ⟨z9, hB, hL⟩ := xo_lp_s hL
          replace hB : F_All_seeds_b33 x1 st w33_3 w33_4 w33_6 = some z9 := hB
          unfold F_All_seeds_b33 at hB
          refine lv_iload hx hb d_All_seeds_33 (lv_at hl 4 rfl) ?_
          refine lv_iload_n hx hb d_All_seeds_35 rfl (lv_at hl 1 rfl) ?_
          refine lv_icmp_ge (tgt := 96) hx hb d_All_seeds_36 (by decide) (fun c_209 => ?_) (fun c_209 => ?_)
          · replace hB := xo_if_t c_209 hB
            have q9 := Option.some.inj hB
            subst q9
            replace hL := Option.some.inj (xo_elR hL)
            subst hL
            exact kx0 _ rfl _ _ _ hP hS (lv_sub hl [3] rfl)
          · replace hB := xo_if_f c_209 hB
            refine lv_iload_n hx hb d_All_seeds_39 rfl (lv_at hl 2 rfl) ?_
            obtain ⟨v2, h_v2, hB⟩ := xo_ob hB
            refine xk_goI (xk_runS (As := [.int w33_3]) (rest := []) hx hb hml hown hts hK hE (fun _ h => h) hP hS ok_All_seedAfter st_All_seedAfter u_638 (c_All_seedAfter l D cI cZ ad A adK adV hDw w33_3 st v2 h_v2) (by decide) rfl hl.1 rfl (Nat.le_of_ble_eq_true rfl) d_All_seeds_40 ⟨Nat.le_refl _, Nat.le_refl _⟩) (fun _ h => h) hS (fun H locs hP hS => ?_)
            refine lv_istore_n (lv' := [(3, .int v2), (0, .ref (ad 0)), (1, .int x1), (4, .long w33_4), (6, .int w33_6)]) hx hb d_All_seeds_43 rfl hl (by decide) rfl (fun ls hl => ?_)
            refine lv_iload_n hx hb d_All_seeds_44 rfl (lv_at hl 0 rfl) ?_
            obtain ⟨v3, h_v3, hB⟩ := xo_ob hB
            refine xk_goI (xk_runS (As := [.int v2]) (rest := []) hx hb hml hown hts hK hE (fun _ h => h) hP hS ok_All_placeDrawn st_All_placeDrawn u_643 (c_All_placeDrawn l D cI cZ ad A adK adV hDw v2 st v3 h_v3) (by decide) rfl hl.1 rfl (Nat.le_of_ble_eq_true rfl) d_All_seeds_45 ⟨Nat.le_refl _, Nat.le_refl _⟩) (fun _ h => h) hS (fun H locs hP hS => ?_)
            refine lv_istore (lv' := [(7, .int v3), (3, .int v2), (0, .ref (ad 0)), (1, .int x1), (4, .long w33_4), (6, .int w33_6)]) hx hb d_All_seeds_48 hl (by decide) rfl (fun ls hl => ?_)
            refine lv_iload_n hx hb d_All_seeds_50 rfl (lv_at hl 1 rfl) ?_
            obtain ⟨v4, h_v4, hB⟩ := xo_ob hB
            refine xk_goI (xk_runS (As := [.int v2]) (rest := []) hx hb hml hown hts hK hE (fun _ h => h) hP hS ok_All_seedAfter st_All_seedAfter u_638 (c_All_seedAfter l D cI cZ ad A adK adV hDw v2 st v4 h_v4) (by decide) rfl hl.1 rfl (Nat.le_of_ble_eq_true rfl) d_All_seeds_51 ⟨Nat.le_refl _, Nat.le_refl _⟩) (fun _ h => h) hS (fun H locs hP hS => ?_)
            refine lv_istore_n (lv' := [(3, .int v4), (7, .int v3), (0, .ref (ad 0)), (1, .int x1), (4, .long w33_4), (6, .int w33_6)]) hx hb d_All_seeds_54 rfl hl (by decide) rfl (fun ls hl => ?_)
            refine lv_iload_n hx hb d_All_seeds_55 rfl (lv_at hl 0 rfl) ?_
            obtain ⟨v5, h_v5, hB⟩ := xo_ob hB
            refine xk_goI (xk_runS (As := [.int v4]) (rest := []) hx hb hml hown hts hK hE (fun _ h => h) hP hS ok_All_placeDrawn st_All_placeDrawn u_643 (c_All_placeDrawn l D cI cZ ad A adK adV hDw v4 st v5 h_v5) (by decide) rfl hl.1 rfl (Nat.le_of_ble_eq_true rfl) d_All_seeds_56 ⟨Nat.le_refl _, Nat.le_refl _⟩) (fun _ h => h) hS (fun H locs hP hS => ?_)
            refine lv_istore (lv' := [(8, .int v5), (3, .int v4), (7, .int v3), (0, .ref (ad 0)), (1, .int x1), (4, .long w33_4), (6, .int w33_6)]) hx hb d_All_seeds_59 hl (by decide) rfl (fun ls hl => ?_)
            refine lv_aload_n hx hb d_All_seeds_61 rfl (lv_at hl 3 rfl) ?_
            refine xk_get (C := R_All) (T := F_All) (N := 9) hx hb hts i_All hown hK hP 0 xw_C_at_0 rfl 4 (by decide) u_238 rfl d_All_seeds_62 ?_
            refine lv_iload hx hb d_All_seeds_65 (lv_at hl 2 rfl) ?_
            refine lv_iload hx hb d_All_seeds_67 (lv_at hl 0 rfl) ?_
            obtain ⟨v6, h_v6, hB⟩ := xo_ob hB
            refine xk_goI (xk_runV (As := [.int v3, .int v5]) (rest := []) hx hb hml hown hts hK hE (fun _ h => h) hP hS ok_Pla_quarterAt in_Pla_quarterAt u_647 (c_Pla_quarterAt l D cI cZ ad A adK adV hDw v3 v5 st v6 h_v6) (va_recv hK hP (ci := 1) (q0 := 22) rfl xw_C_at_22) (by decide) rfl hl.1 rfl (Nat.le_of_ble_eq_true rfl) d_All_seeds_69 ⟨Nat.le_refl _, Nat.le_refl _⟩) (fun _ h => h) hS (fun H locs hP hS => ?_)
            refine lv_istore (lv' := [(9, .int v6), (8, .int v5), (3, .int v4), (7, .int v3), (0, .ref (ad 0)), (1, .int x1), (4, .long w33_4), (6, .int w33_6)]) hx hb d_All_seeds_72 hl (by decide) rfl (fun ls hl => ?_)
            refine lv_iload hx hb d_All_seeds_74 (lv_at hl 0 rfl) ?_
            refine lv_bipush (v := (-9 : Int32)) hx hb d_All_seeds_76 (by decide) ?_
            refine lv_icmp_eq (tgt := 90) hx hb d_All_seeds_78 (by decide) (fun c_210 => ?_) (fun c_210 => ?_)
            · replace hB := xo_if_t c_210 hB
              obtain ⟨v7, e_v7, hB⟩ := xo_nm_e hB
              refine lv_iinc (v := v7) (lv' := [(6, .int v7), (9, .int v6), (8, .int v5), (3, .int v4), (7, .int v3), (0, .ref (ad 0)), (1, .int x1), (4, .long w33_4)]) hx hb d_All_seeds_90 hl (k := 7) rfl (by rw [e_v7]; rfl) (by decide) rfl (fun ls hl => ?_)
              clear e_v7
              refine lv_goto (tgt := 33) hx hb d_All_seeds_93 (by decide) ?_
              have q9 := Option.some.inj hB
              subst q9
              exact ih _ _ _ _ (xo_elL hL) kx0 _ _ _ hP hS (lv_sub hl [5, 6, 3, 7, 0] rfl)
            · replace hB := xo_if_f c_210 hB
              refine lv_lload hx hb d_All_seeds_81 (lv_at hl 6 rfl) ?_
              refine lv_lconst (v := (1 : Int64)) hx hb d_All_seeds_83 (by decide) ?_
              refine lv_iload hx hb d_All_seeds_84 (lv_at hl 0 rfl) ?_
              refine lv_lshl (v := ((1 : Int64) <<< (v6.toInt64 &&& 63))) hx hb d_All_seeds_86 rfl ?_
              refine lv_lor hx hb d_All_seeds_87 ?_
              refine lv_topl (fun v8 e_v8 => ?_)
              replace hB := xo_nm_u hB e_v8
              clear e_v8
              refine lv_lstore (lv' := [(4, .long v8), (9, .int v6), (8, .int v5), (3, .int v4), (7, .int v3), (0, .ref (ad 0)), (1, .int x1), (6, .int w33_6)]) hx hb d_All_seeds_88 hl (by decide) rfl (fun ls hl => ?_)
              obtain ⟨v9, e_v9, hB⟩ := xo_nm_e hB
              refine lv_iinc (v := v9) (lv' := [(6, .int v9), (4, .long v8), (9, .int v6), (8, .int v5), (3, .int v4), (7, .int v3), (0, .ref (ad 0)), (1, .int x1)]) hx hb d_All_seeds_90 hl (k := 7) rfl (by rw [e_v9]; rfl) (by decide) rfl (fun ls hl => ?_)
              clear e_v9
              refine lv_goto (tgt := 33) hx hb d_All_seeds_93 (by decide) ?_
              have q9 := Option.some.inj hB
              subst q9
              exact ih _ _ _ _ (xo_elL hL) kx0 _ _ _ hP hS (lv_sub hl [6, 7, 4, 1, 0] rfl)
      obtain ⟨y33, hL33, hF⟩ := xo_ob hF
      refine lp33 1000000 x2 (0 : Int64) (0 : Int32) y33 hL33 ?_ _ _ _ hP hS (lv_sub hl [3, 4, 2, 1, 0] rfl)
      intro o1 ey H locs ls hP hS hl
      subst ey
      refine lv_lload hx hb d_All_seeds_96 (lv_at hl 0 rfl) ?_
      obtain ⟨v10, h_v10, hF⟩ := xo_ob hF
      refine xk_goI (xk_runS (As := [.long o1]) (rest := []) hx hb hml hown hts hK hE (fun _ h => h) hP hS ok_Lng_bitCount st_Lng_bitCount u_479 (c_Lng_bitCount l D cI cZ (xw_C ad cI cZ) A adK adV o1 st v10 h_v10) (by decide) rfl hl.1 rfl (Nat.le_of_ble_eq_true rfl) d_All_seeds_98 ⟨Nat.le_refl _, Nat.le_refl _⟩) (fun _ h => h) hS (fun H locs hP hS => ?_)
      obtain ⟨q8, q9⟩ := xo_s2 hF
      subst q8
      subst q9
      exact hret 101 _ _ _ d_All_seeds_101 rfl hP hS
    · replace hF := xo_if_f c_208 hF
      refine lv_aload_n hx hb d_All_seeds_18 rfl (lv_at hl 0 rfl) ?_
      refine lv_bipush (v := (-6 : Int32)) hx hb d_All_seeds_19 (by decide) ?_
      obtain ⟨v11, t12, h_v11, hF⟩ := xo_ob2 hF
      refine xk_goI (xk_runV (As := [.int (-6 : Int32)]) (rest := []) hx hb hml hown hts hK hE (fun _ h => h) hP hS ok_All_refuse in_All_refuse u_266 (c_All_refuse l D cI cZ ad A adK adV hDw (-6 : Int32) st v11 t12 h_v11) (va_recv hK hP (ci := 3) (q0 := 0) rfl xw_C_at_0) (by decide) rfl hl.1 rfl (Nat.le_of_ble_eq_true rfl) d_All_seeds_21 ⟨Nat.le_refl _, Nat.le_refl _⟩) (fun _ h => h) hS (fun H locs hP hS => ?_)
      obtain ⟨q8, q9⟩ := xo_s2 hF
      subst q8
      subst q9
      exact hret 24 _ _ _ d_All_seeds_24 rfl hP hS
  · replace hF := xo_if_f c_207 hF
    refine lv_aload_n hx hb d_All_seeds_5 rfl (lv_at hl 0 rfl) ?_
    refine lv_bipush (v := (-4 : Int32)) hx hb d_All_seeds_6 (by decide) ?_
    obtain ⟨v13, t14, h_v13, hF⟩ := xo_ob2 hF
    refine xk_goI (xk_runV (As := [.int (-4 : Int32)]) (rest := []) hx hb hml hown hts hK hE (fun _ h => h) hP hS ok_All_refuse in_All_refuse u_266 (c_All_refuse l D cI cZ ad A adK adV hDw (-4 : Int32) st v13 t14 h_v13) (va_recv hK hP (ci := 3) (q0 := 0) rfl xw_C_at_0) (by decide) rfl hl.1 rfl (Nat.le_of_ble_eq_true rfl) d_All_seeds_8 ⟨Nat.le_refl _, Nat.le_refl _⟩) (fun _ h => h) hS (fun H locs hP hS => ?_)
    obtain ⟨q8, q9⟩ := xo_s2 hF
    subst q8
    subst q9
    exact hret 11 _ _ _ d_All_seeds_11 rfl hP hS
set_option maxHeartbeats 4000000 in
set_option maxRecDepth 100000 in
theorem c_All_image (l : Launch) (D : va_G) (cI cZ : ClassId) (ad : Nat → Nat) (A : Nat → Prop) (adK adV : Nat → Nat) (hDw : ∀ st : XS, va_D A (xw_C ad cI cZ st)) (st : XS) (r9 : Int32) (st9 : XS) (hF : F_All_image  st = some (r9, st9)) : K_I l D cI cZ A adK adV (xw_C ad cI cZ) y_All_image b_All_image 1 (some .int) 2 81 [.ref (ad 0)] st r9 st9 := by
  refine xk_startI (by decide) .int rfl (Nat.le_of_ble_eq_true rfl) ?_
  intro p e s m args below meth c Q ls hx hb hml hown hts hK hE hP hS hl hret
  replace hown : s.vm.findClass R_All = some m.cls := hown
  replace hl : lv_has ls 1 [(0, .ref (ad 0))] := hl
  unfold F_All_image at hF
  refine lv_aload_n hx hb d_All_image_0 rfl (lv_at hl 0 rfl) ?_
  refine xk_get (C := R_All) (T := F_All) (N := 9) hx hb hts i_All hown hK hP 0 xw_C_at_0 rfl 2 (by decide) u_236 rfl d_All_image_1 ?_
  refine lv_aload_n hx hb d_All_image_4 rfl (lv_at hl 0 rfl) ?_
  refine xk_get (C := R_All) (T := F_All) (N := 9) hx hb hts i_All hown hK hP 0 xw_C_at_0 rfl 0 (by decide) u_234 rfl d_All_image_5 ?_
  obtain ⟨t1, h_t1, hF⟩ := xo_ob hF
  refine xk_goV (xk_runV (As := [.ref (ad 1)]) (rest := []) hx hb hml hown hts hK hE (fun _ h => h) hP hS ok_Tow_copyFrom in_Tow_copyFrom u_283 (c_Tow_copyFrom_v2 l D cI cZ ad A adK adV hDw st t1 h_t1) (va_recv hK hP (ci := 2) (q0 := 15) rfl xw_C_at_15) (by decide) rfl hl.1 rfl (Nat.le_of_ble_eq_true rfl) d_All_image_8 ⟨Nat.le_refl _, Nat.le_refl _⟩) (fun _ h => h) hS (fun H locs hP hS => ?_)
  refine lv_aload_n hx hb d_All_image_11 rfl (lv_at hl 0 rfl) ?_
  refine lv_iconst (v := (1 : Int32)) hx hb d_All_image_12 (by decide) ?_
  obtain ⟨t2, e_t2, hF⟩ := xo_nm_e hF
  refine xk_put (C := R_All) (T := F_All) (N := 9) (ty := .boolean) hx hb hts i_All t_All t_All_ok n_All hown hK hP (hDw _) hS 0 xw_C_at_0 rfl 3 (by decide) u_237 rfl (by decide +kernel) rfl rfl (Nat.le_of_ble_eq_true rfl) (xw_C_put_0_3 _) d_All_image_13 (fun H locs hP hS => ?_)
  replace hP : va_P D classes (xw_C ad cI cZ t2) H := by rw [e_t2]; exact hP
  clear e_t2
  refine lv_aload_n hx hb d_All_image_16 rfl (lv_at hl 0 rfl) ?_
  refine xk_get (C := R_All) (T := F_All) (N := 9) hx hb hts i_All hown hK hP 0 xw_C_at_0 rfl 0 (by decide) u_234 rfl d_All_image_17 ?_
  refine xk_get (C := R_Tow) (T := F_Tow) (N := 8) hx hb hts i_Tow hown hK hP 1 xw_C_at_1 rfl 4 (by decide) u_91 rfl d_All_image_20 ?_
  obtain ⟨q8, q9⟩ := xo_s2 hF
  subst q8
  subst q9
  exact hret 23 _ _ _ d_All_image_23 rfl hP hS
set_option maxHeartbeats 4000000 in
set_option maxRecDepth 100000 in
theorem c_All_on (l : Launch) (D : va_G) (cI cZ : ClassId) (ad : Nat → Nat) (A : Nat → Prop) (adK adV : Nat → Nat) (hDw : ∀ st : XS, va_D A (xw_C ad cI cZ st)) (st : XS) (r9 : Int32) (st9 : XS) (hF : F_All_on  st = some (r9, st9)) : K_I l D cI cZ A adK adV (xw_C ad cI cZ) y_All_on b_All_on 1 (some .int) 5 126 [.ref (ad 0)] st r9 st9 := by
  refine xk_startI (by decide) .int rfl (Nat.le_of_ble_eq_true rfl) ?_
  intro p e s m args below meth c Q ls hx hb hml hown hts hK hE hP hS hl hret
  replace hown : s.vm.findClass R_All = some m.cls := hown
  replace hl : lv_has ls 1 [(0, .ref (ad 0))] := hl
  unfold F_All_on at hF
  refine lv_aload_n hx hb d_All_on_0 rfl (lv_at hl 0 rfl) ?_
  refine xk_get (C := R_All) (T := F_All) (N := 9) hx hb hts i_All hown hK hP 0 xw_C_at_0 rfl 3 (by decide) u_237 rfl d_All_on_1 ?_
  refine lv_if_ne (tgt := 14) hx hb d_All_on_4 (by decide) (fun c_211 => ?_) (fun c_211 => ?_)
  · replace hF := xo_if_f c_211 hF
    refine lv_aload_n hx hb d_All_on_14 rfl (lv_at hl 0 rfl) ?_
    refine xk_get (C := R_All) (T := F_All) (N := 9) hx hb hts i_All hown hK hP 0 xw_C_at_0 rfl 0 (by decide) u_234 rfl d_All_on_15 ?_
    refine lv_aload_n hx hb d_All_on_18 rfl (lv_at hl 0 rfl) ?_
    refine xk_get (C := R_All) (T := F_All) (N := 9) hx hb hts i_All hown hK hP 0 xw_C_at_0 rfl 2 (by decide) u_236 rfl d_All_on_19 ?_
    obtain ⟨t3, h_t3, hF⟩ := xo_ob hF
    refine xk_goV (xk_runV (As := [.ref (ad 15)]) (rest := []) hx hb hml hown hts hK hE (fun _ h => h) hP hS ok_Tow_copyFrom in_Tow_copyFrom u_283 (c_Tow_copyFrom_v3 l D cI cZ ad A adK adV hDw st t3 h_t3) (va_recv hK hP (ci := 2) (q0 := 1) rfl xw_C_at_1) (by decide) rfl hl.1 rfl (Nat.le_of_ble_eq_true rfl) d_All_on_22 ⟨Nat.le_refl _, Nat.le_refl _⟩) (fun _ h => h) hS (fun H locs hP hS => ?_)
    refine lv_aload_n hx hb d_All_on_25 rfl (lv_at hl 0 rfl) ?_
    refine xk_get (C := R_All) (T := F_All) (N := 9) hx hb hts i_All hown hK hP 0 xw_C_at_0 rfl 4 (by decide) u_238 rfl d_All_on_26 ?_
    obtain ⟨t4, h_t4, hF⟩ := xo_ob hF
    refine xk_goV (xk_runV (As := []) (rest := []) hx hb hml hown hts hK hE (fun _ h => h) hP hS ok_Pla_measure in_Pla_measure u_179 (c_Pla_measure l D cI cZ ad A adK adV hDw t3 t4 h_t4) (va_recv hK hP (ci := 1) (q0 := 22) rfl xw_C_at_22) (by decide) rfl hl.1 rfl (Nat.le_of_ble_eq_true rfl) d_All_on_29 ⟨Nat.le_refl _, Nat.le_refl _⟩) (fun _ h => h) hS (fun H locs hP hS => ?_)
    refine lv_aload_n hx hb d_All_on_32 rfl (lv_at hl 0 rfl) ?_
    refine xk_get (C := R_All) (T := F_All) (N := 9) hx hb hts i_All hown hK hP 0 xw_C_at_0 rfl 0 (by decide) u_234 rfl d_All_on_33 ?_
    refine xk_get (C := R_Tow) (T := F_Tow) (N := 8) hx hb hts i_Tow hown hK hP 1 xw_C_at_1 rfl 4 (by decide) u_91 rfl d_All_on_36 ?_
    obtain ⟨q8, q9⟩ := xo_s2 hF
    subst q8
    subst q9
    exact hret 39 _ _ _ d_All_on_39 rfl hP hS
  · replace hF := xo_if_t c_211 hF
    refine lv_aload_n hx hb d_All_on_7 rfl (lv_at hl 0 rfl) ?_
    refine lv_bipush (v := (-3 : Int32)) hx hb d_All_on_8 (by decide) ?_
    obtain ⟨v1, t2, h_v1, hF⟩ := xo_ob2 hF
    refine xk_goI (xk_runV (As := [.int (-3 : Int32)]) (rest := []) hx hb hml hown hts hK hE (fun _ h => h) hP hS ok_All_refuse in_All_refuse u_266 (c_All_refuse l D cI cZ ad A adK adV hDw (-3 : Int32) st v1 t2 h_v1) (va_recv hK hP (ci := 3) (q0 := 0) rfl xw_C_at_0) (by decide) rfl hl.1 rfl (Nat.le_of_ble_eq_true rfl) d_All_on_10 ⟨Nat.le_refl _, Nat.le_refl _⟩) (fun _ h => h) hS (fun H locs hP hS => ?_)
    obtain ⟨q8, q9⟩ := xo_s2 hF
    subst q8
    subst q9
    exact hret 13 _ _ _ d_All_on_13 rfl hP hS
set_option maxHeartbeats 4000000 in
set_option maxRecDepth 100000 in
theorem c_All_count (l : Launch) (D : va_G) (cI cZ : ClassId) (ad : Nat → Nat) (A : Nat → Prop) (adK adV : Nat → Nat) (hDw : ∀ st : XS, va_D A (xw_C ad cI cZ st)) (x1 : Int32) (st : XS) (r9 : Int32) (hF : F_All_count x1 st = some r9) : K_I l D cI cZ A adK adV (xw_C ad cI cZ) y_All_count b_All_count 2 (some .int) 0 0 [.ref (ad 0), .int x1] st r9 st := by
  refine xk_startI (by decide) .int rfl (Nat.le_of_ble_eq_true rfl) ?_
  intro p e s m args below meth c Q ls hx hb hml hown hts hK hE hP hS hl hret
  replace hown : s.vm.findClass R_All = some m.cls := hown
  replace hl : lv_has ls 2 [(0, .ref (ad 0)), (1, .int x1)] := hl
  unfold F_All_count at hF
  refine lv_iload_n hx hb d_All_count_0 rfl (lv_at hl 1 rfl) ?_
  by_cases c_212 : x1 = (0 : Int32)
  · replace hF := xo_if_t c_212 hF
    refine lv_tableIn (off := 31) (tgt := 32) hx hb d_All_count_1 (by rw [c_212]; decide) (by rw [c_212]; decide) (by rw [c_212]; decide) (by decide) ?_
    refine lv_aload_n hx hb d_All_count_32 rfl (lv_at hl 0 rfl) ?_
    refine xk_get (C := R_All) (T := F_All) (N := 9) hx hb hts i_All hown hK hP 0 xw_C_at_0 rfl 0 (by decide) u_234 rfl d_All_count_33 ?_
    refine xk_get (C := R_Tow) (T := F_Tow) (N := 8) hx hb hts i_Tow hown hK hP 1 xw_C_at_1 rfl 4 (by decide) u_91 rfl d_All_count_36 ?_
    have q9 := Option.some.inj hF
    subst q9
    exact hret 39 _ _ _ d_All_count_39 rfl hP hS
  · replace hF := xo_if_f c_212 hF
    by_cases c_213 : x1 = (1 : Int32)
    · replace hF := xo_if_t c_213 hF
      refine lv_tableIn (off := 39) (tgt := 40) hx hb d_All_count_1 (by rw [c_213]; decide) (by rw [c_213]; decide) (by rw [c_213]; decide) (by decide) ?_
      refine lv_aload_n hx hb d_All_count_40 rfl (lv_at hl 0 rfl) ?_
      refine xk_get (C := R_All) (T := F_All) (N := 9) hx hb hts i_All hown hK hP 0 xw_C_at_0 rfl 0 (by decide) u_234 rfl d_All_count_41 ?_
      refine xk_get (C := R_Tow) (T := F_Tow) (N := 8) hx hb hts i_Tow hown hK hP 1 xw_C_at_1 rfl 7 (by decide) u_100 rfl d_All_count_44 ?_
      have q9 := Option.some.inj hF
      subst q9
      exact hret 47 _ _ _ d_All_count_47 rfl hP hS
    · replace hF := xo_if_f c_213 hF
      by_cases c_214 : x1 = (2 : Int32)
      · replace hF := xo_if_t c_214 hF
        refine lv_tableIn (off := 47) (tgt := 48) hx hb d_All_count_1 (by rw [c_214]; decide) (by rw [c_214]; decide) (by rw [c_214]; decide) (by decide) ?_
        refine lv_aload_n hx hb d_All_count_48 rfl (lv_at hl 0 rfl) ?_
        refine xk_get (C := R_All) (T := F_All) (N := 9) hx hb hts i_All hown hK hP 0 xw_C_at_0 rfl 7 (by decide) u_241 rfl d_All_count_49 ?_
        have q9 := Option.some.inj hF
        subst q9
        exact hret 52 _ _ _ d_All_count_52 rfl hP hS
      · replace hF := xo_if_f c_214 hF
        by_cases c_215 : x1 = (3 : Int32)
        · replace hF := xo_if_t c_215 hF
          refine lv_tableIn (off := 52) (tgt := 53) hx hb d_All_count_1 (by rw [c_215]; decide) (by rw [c_215]; decide) (by rw [c_215]; decide) (by decide) ?_
          refine lv_aload_n hx hb d_All_count_53 rfl (lv_at hl 0 rfl) ?_
          refine xk_get (C := R_All) (T := F_All) (N := 9) hx hb hts i_All hown hK hP 0 xw_C_at_0 rfl 5 (by decide) u_239 rfl d_All_count_54 ?_
          refine xk_get (C := R_Let) (T := F_Let) (N := 5) hx hb hts i_Let hown hK hP 28 xw_C_at_28 rfl 1 (by decide) u_164 rfl d_All_count_57 ?_
          have q9 := Option.some.inj hF
          subst q9
          exact hret 60 _ _ _ d_All_count_60 rfl hP hS
        · replace hF := xo_if_f c_215 hF
          refine lv_tableOut (tgt := 61) hx hb d_All_count_1 (xk_out_0_3 c_212 c_213 c_214 c_215) (by decide) ?_
          refine lv_iload_n hx hb d_All_count_61 rfl (lv_at hl 1 rfl) ?_
          refine lv_bipush (v := (11 : Int32)) hx hb d_All_count_62 (by decide) ?_
          refine lv_icmp_lt (tgt := 85) hx hb d_All_count_64 (by decide) (fun c_216 => ?_) (fun c_216 => ?_)
          · replace hF := xo_if_t c_216 hF
            refine lv_bipush (v := (-9 : Int32)) hx hb d_All_count_85 (by decide) ?_
            have q9 := Option.some.inj hF
            subst q9
            exact hret 87 _ _ _ d_All_count_87 rfl hP hS
          · replace hF := xo_if_f c_216 hF
            refine lv_iload_n hx hb d_All_count_67 rfl (lv_at hl 1 rfl) ?_
            refine lv_bipush (v := (16 : Int32)) hx hb d_All_count_68 (by decide) ?_
            refine lv_icmp_gt (tgt := 85) hx hb d_All_count_70 (by decide) (fun c_217 => ?_) (fun c_217 => ?_)
            · replace hF := xo_if_t c_217 hF
              refine lv_bipush (v := (-9 : Int32)) hx hb d_All_count_85 (by decide) ?_
              have q9 := Option.some.inj hF
              subst q9
              exact hret 87 _ _ _ d_All_count_87 rfl hP hS
            · replace hF := xo_if_f c_217 hF
              refine lv_aload_n hx hb d_All_count_73 rfl (lv_at hl 0 rfl) ?_
              refine xk_get (C := R_All) (T := F_All) (N := 9) hx hb hts i_All hown hK hP 0 xw_C_at_0 rfl 8 (by decide) u_242 rfl d_All_count_74 ?_
              refine lv_iload_n hx hb d_All_count_77 rfl (lv_at hl 1 rfl) ?_
              refine lv_bipush (v := (10 : Int32)) hx hb d_All_count_78 (by decide) ?_
              refine lv_isub hx hb d_All_count_80 ?_
              obtain ⟨v1, h_v1, hF⟩ := xo_ob hF
              refine xk_iald hx hb hK hP 32 xw_C_at_32 h_v1 d_All_count_81 ?_
              refine lv_goto (tgt := 87) hx hb d_All_count_82 (by decide) ?_
              have q9 := Option.some.inj hF
              subst q9
              exact hret 87 _ _ _ d_All_count_87 rfl hP hS
