set_option maxHeartbeats 4000000 in
set_option maxRecDepth 100000 in
theorem c_Tow_turn (l : Launch) (D : va_G) (cI cZ : ClassId) (ad : Nat → Nat) (A : Nat → Prop) (adK adV : Nat → Nat) (hDw : ∀ st : XS, va_D A (xw_C ad cI cZ st)) (x1 : Int32) (x2 : Int32) (x3 : Int32) (st : XS) (r9 : Int32) (hF : F_Tow_turn x1 x2 x3 st = some r9) : K_I l D cI cZ A adK adV (xw_C ad cI cZ) y_Tow_turn b_Tow_turn 4 (some .int) 0 0 [.ref (ad 1), .int x1, .int x2, .int x3] st r9 st := by
  refine xk_startI (by decide) .int rfl (Nat.le_of_ble_eq_true rfl) ?_
  intro p e s m args below meth c Q ls hx hb hml hown hts hK hE hP hS hl hret
  replace hown : s.vm.findClass R_Tow = some m.cls := hown
  replace hl : lv_has ls 4 [(0, .ref (ad 1)), (1, .int x1), (2, .int x2), (3, .int x3)] := hl
  unfold F_Tow_turn at hF
  refine lv_iload_n hx hb d_Tow_turn_0 rfl (lv_at hl 1 rfl) ?_
  refine lv_aload_n hx hb d_Tow_turn_1 rfl (lv_at hl 0 rfl) ?_
  refine xk_get (C := R_Tow) (T := F_Tow) (N := 8) hx hb hts i_Tow hown hK hP 1 xw_C_at_1 rfl 2 (by decide) u_83 rfl d_Tow_turn_2 ?_
  refine lv_iload_n hx hb d_Tow_turn_5 rfl (lv_at hl 3 rfl) ?_
  obtain ⟨v1, h_v1, hF⟩ := xo_ob hF
  refine xk_iald hx hb hK hP 4 xw_C_at_4 h_v1 d_Tow_turn_6 ?_
  refine lv_imul hx hb d_Tow_turn_7 ?_
  refine lv_iload_n hx hb d_Tow_turn_8 rfl (lv_at hl 2 rfl) ?_
  refine lv_aload_n hx hb d_Tow_turn_9 rfl (lv_at hl 0 rfl) ?_
  refine xk_get (C := R_Tow) (T := F_Tow) (N := 8) hx hb hts i_Tow hown hK hP 1 xw_C_at_1 rfl 1 (by decide) u_80 rfl d_Tow_turn_10 ?_
  refine lv_iload_n hx hb d_Tow_turn_13 rfl (lv_at hl 3 rfl) ?_
  obtain ⟨v2, h_v2, hF⟩ := xo_ob hF
  refine xk_iald hx hb hK hP 3 xw_C_at_3 h_v2 d_Tow_turn_14 ?_
  refine lv_imul hx hb d_Tow_turn_15 ?_
  refine lv_isub hx hb d_Tow_turn_16 ?_
  have q9 := Option.some.inj hF
  subst q9
  exact hret 17 _ _ _ d_Tow_turn_17 rfl hP hS
set_option maxHeartbeats 4000000 in
set_option maxRecDepth 100000 in
theorem c_Tow_crossingX (l : Launch) (D : va_G) (cI cZ : ClassId) (ad : Nat → Nat) (A : Nat → Prop) (adK adV : Nat → Nat) (hDw : ∀ st : XS, va_D A (xw_C ad cI cZ st)) (x1 : Int32) (x2 : Int32) (st : XS) (r9 : Int32) (hF : F_Tow_crossingX x1 x2 st = some r9) : K_I l D cI cZ A adK adV (xw_C ad cI cZ) y_Tow_crossingX b_Tow_crossingX 4 (some .int) 1 23 [.ref (ad 1), .int x1, .int x2] st r9 st := by
  refine xk_startI (by decide) .int rfl (Nat.le_of_ble_eq_true rfl) ?_
  intro p e s m args below meth c Q ls hx hb hml hown hts hK hE hP hS hl hret
  replace hown : s.vm.findClass R_Tow = some m.cls := hown
  replace hl : lv_has ls 4 [(0, .ref (ad 1)), (1, .int x1), (2, .int x2)] := hl
  unfold F_Tow_crossingX at hF
  refine lv_aload_n hx hb d_Tow_crossingX_0 rfl (lv_at hl 0 rfl) ?_
  refine xk_get (C := R_Tow) (T := F_Tow) (N := 8) hx hb hts i_Tow hown hK hP 1 xw_C_at_1 rfl 3 (by decide) u_86 rfl d_Tow_crossingX_1 ?_
  refine lv_iload_n hx hb d_Tow_crossingX_4 rfl (lv_at hl 1 rfl) ?_
  obtain ⟨v1, h_v1, hF⟩ := xo_ob hF
  refine xk_iald hx hb hK hP 5 xw_C_at_5 h_v1 d_Tow_crossingX_5 ?_
  refine lv_aload_n hx hb d_Tow_crossingX_6 rfl (lv_at hl 0 rfl) ?_
  refine xk_get (C := R_Tow) (T := F_Tow) (N := 8) hx hb hts i_Tow hown hK hP 1 xw_C_at_1 rfl 2 (by decide) u_83 rfl d_Tow_crossingX_7 ?_
  refine lv_iload_n hx hb d_Tow_crossingX_10 rfl (lv_at hl 2 rfl) ?_
  obtain ⟨v2, h_v2, hF⟩ := xo_ob hF
  refine xk_iald hx hb hK hP 4 xw_C_at_4 h_v2 d_Tow_crossingX_11 ?_
  refine lv_imul hx hb d_Tow_crossingX_12 ?_
  refine lv_aload_n hx hb d_Tow_crossingX_13 rfl (lv_at hl 0 rfl) ?_
  refine xk_get (C := R_Tow) (T := F_Tow) (N := 8) hx hb hts i_Tow hown hK hP 1 xw_C_at_1 rfl 2 (by decide) u_83 rfl d_Tow_crossingX_14 ?_
  refine lv_iload_n hx hb d_Tow_crossingX_17 rfl (lv_at hl 1 rfl) ?_
  obtain ⟨v3, h_v3, hF⟩ := xo_ob hF
  refine xk_iald hx hb hK hP 4 xw_C_at_4 h_v3 d_Tow_crossingX_18 ?_
  refine lv_aload_n hx hb d_Tow_crossingX_19 rfl (lv_at hl 0 rfl) ?_
  refine xk_get (C := R_Tow) (T := F_Tow) (N := 8) hx hb hts i_Tow hown hK hP 1 xw_C_at_1 rfl 3 (by decide) u_86 rfl d_Tow_crossingX_20 ?_
  refine lv_iload_n hx hb d_Tow_crossingX_23 rfl (lv_at hl 2 rfl) ?_
  obtain ⟨v4, h_v4, hF⟩ := xo_ob hF
  refine xk_iald hx hb hK hP 5 xw_C_at_5 h_v4 d_Tow_crossingX_24 ?_
  refine lv_imul hx hb d_Tow_crossingX_25 ?_
  refine lv_isub hx hb d_Tow_crossingX_26 ?_
  refine lv_topi (fun v5 e_v5 => ?_)
  replace hF := xo_nm_u hF e_v5
  clear e_v5
  refine lv_istore_n (lv' := [(3, .int v5), (0, .ref (ad 1)), (1, .int x1), (2, .int x2)]) hx hb d_Tow_crossingX_27 rfl hl (by decide) rfl (fun ls hl => ?_)
  refine lv_aload_n hx hb d_Tow_crossingX_28 rfl (lv_at hl 1 rfl) ?_
  refine lv_aload_n hx hb d_Tow_crossingX_29 rfl (lv_at hl 1 rfl) ?_
  refine xk_get (C := R_Tow) (T := F_Tow) (N := 8) hx hb hts i_Tow hown hK hP 1 xw_C_at_1 rfl 1 (by decide) u_80 rfl d_Tow_crossingX_30 ?_
  refine lv_iload_n hx hb d_Tow_crossingX_33 rfl (lv_at hl 2 rfl) ?_
  obtain ⟨v6, h_v6, hF⟩ := xo_ob hF
  refine xk_iald hx hb hK hP 3 xw_C_at_3 h_v6 d_Tow_crossingX_34 ?_
  refine lv_aload_n hx hb d_Tow_crossingX_35 rfl (lv_at hl 1 rfl) ?_
  refine xk_get (C := R_Tow) (T := F_Tow) (N := 8) hx hb hts i_Tow hown hK hP 1 xw_C_at_1 rfl 2 (by decide) u_83 rfl d_Tow_crossingX_36 ?_
  refine lv_iload_n hx hb d_Tow_crossingX_39 rfl (lv_at hl 2 rfl) ?_
  obtain ⟨v7, h_v7, hF⟩ := xo_ob hF
  refine xk_iald hx hb hK hP 4 xw_C_at_4 h_v7 d_Tow_crossingX_40 ?_
  refine lv_iload_n hx hb d_Tow_crossingX_41 rfl (lv_at hl 3 rfl) ?_
  obtain ⟨v8, h_v8, hF⟩ := xo_ob hF
  refine xk_goI (xk_runV (As := [.int v6, .int v7, .int x2]) (rest := []) hx hb hml hown hts hK hE (fun _ h => h) hP hS ok_Tow_turn in_Tow_turn u_191 (c_Tow_turn l D cI cZ ad A adK adV hDw v6 v7 x2 st v8 h_v8) (va_recv hK hP (ci := 2) (q0 := 1) rfl xw_C_at_1) (by decide) rfl hl.1 rfl (Nat.le_of_ble_eq_true rfl) d_Tow_crossingX_42 ⟨Nat.le_refl _, Nat.le_refl _⟩) (fun _ h => h) hS (fun H locs hP hS => ?_)
  refine lv_if_ge (tgt := 53) hx hb d_Tow_crossingX_45 (by decide) (fun c_1 => ?_) (fun c_1 => ?_)
  · replace hF := xo_if_t c_1 hF
    refine lv_iload_n hx hb d_Tow_crossingX_53 rfl (lv_at hl 0 rfl) ?_
    have q9 := Option.some.inj hF
    subst q9
    exact hret 54 _ _ _ d_Tow_crossingX_54 rfl hP hS
  · replace hF := xo_if_f c_1 hF
    refine lv_iload_n hx hb d_Tow_crossingX_48 rfl (lv_at hl 0 rfl) ?_
    refine lv_ineg hx hb d_Tow_crossingX_49 ?_
    refine lv_goto (tgt := 54) hx hb d_Tow_crossingX_50 (by decide) ?_
    have q9 := Option.some.inj hF
    subst q9
    exact hret 54 _ _ _ d_Tow_crossingX_54 rfl hP hS
set_option maxHeartbeats 4000000 in
set_option maxRecDepth 100000 in
theorem c_Tow_crossingY (l : Launch) (D : va_G) (cI cZ : ClassId) (ad : Nat → Nat) (A : Nat → Prop) (adK adV : Nat → Nat) (hDw : ∀ st : XS, va_D A (xw_C ad cI cZ st)) (x1 : Int32) (x2 : Int32) (st : XS) (r9 : Int32) (hF : F_Tow_crossingY x1 x2 st = some r9) : K_I l D cI cZ A adK adV (xw_C ad cI cZ) y_Tow_crossingY b_Tow_crossingY 4 (some .int) 1 23 [.ref (ad 1), .int x1, .int x2] st r9 st := by
  refine xk_startI (by decide) .int rfl (Nat.le_of_ble_eq_true rfl) ?_
  intro p e s m args below meth c Q ls hx hb hml hown hts hK hE hP hS hl hret
  replace hown : s.vm.findClass R_Tow = some m.cls := hown
  replace hl : lv_has ls 4 [(0, .ref (ad 1)), (1, .int x1), (2, .int x2)] := hl
  unfold F_Tow_crossingY at hF
  refine lv_aload_n hx hb d_Tow_crossingY_0 rfl (lv_at hl 0 rfl) ?_
  refine xk_get (C := R_Tow) (T := F_Tow) (N := 8) hx hb hts i_Tow hown hK hP 1 xw_C_at_1 rfl 1 (by decide) u_80 rfl d_Tow_crossingY_1 ?_
  refine lv_iload_n hx hb d_Tow_crossingY_4 rfl (lv_at hl 1 rfl) ?_
  obtain ⟨v1, h_v1, hF⟩ := xo_ob hF
  refine xk_iald hx hb hK hP 3 xw_C_at_3 h_v1 d_Tow_crossingY_5 ?_
  refine lv_aload_n hx hb d_Tow_crossingY_6 rfl (lv_at hl 0 rfl) ?_
  refine xk_get (C := R_Tow) (T := F_Tow) (N := 8) hx hb hts i_Tow hown hK hP 1 xw_C_at_1 rfl 3 (by decide) u_86 rfl d_Tow_crossingY_7 ?_
  refine lv_iload_n hx hb d_Tow_crossingY_10 rfl (lv_at hl 2 rfl) ?_
  obtain ⟨v2, h_v2, hF⟩ := xo_ob hF
  refine xk_iald hx hb hK hP 5 xw_C_at_5 h_v2 d_Tow_crossingY_11 ?_
  refine lv_imul hx hb d_Tow_crossingY_12 ?_
  refine lv_aload_n hx hb d_Tow_crossingY_13 rfl (lv_at hl 0 rfl) ?_
  refine xk_get (C := R_Tow) (T := F_Tow) (N := 8) hx hb hts i_Tow hown hK hP 1 xw_C_at_1 rfl 3 (by decide) u_86 rfl d_Tow_crossingY_14 ?_
  refine lv_iload_n hx hb d_Tow_crossingY_17 rfl (lv_at hl 1 rfl) ?_
  obtain ⟨v3, h_v3, hF⟩ := xo_ob hF
  refine xk_iald hx hb hK hP 5 xw_C_at_5 h_v3 d_Tow_crossingY_18 ?_
  refine lv_aload_n hx hb d_Tow_crossingY_19 rfl (lv_at hl 0 rfl) ?_
  refine xk_get (C := R_Tow) (T := F_Tow) (N := 8) hx hb hts i_Tow hown hK hP 1 xw_C_at_1 rfl 1 (by decide) u_80 rfl d_Tow_crossingY_20 ?_
  refine lv_iload_n hx hb d_Tow_crossingY_23 rfl (lv_at hl 2 rfl) ?_
  obtain ⟨v4, h_v4, hF⟩ := xo_ob hF
  refine xk_iald hx hb hK hP 3 xw_C_at_3 h_v4 d_Tow_crossingY_24 ?_
  refine lv_imul hx hb d_Tow_crossingY_25 ?_
  refine lv_isub hx hb d_Tow_crossingY_26 ?_
  refine lv_topi (fun v5 e_v5 => ?_)
  replace hF := xo_nm_u hF e_v5
  clear e_v5
  refine lv_istore_n (lv' := [(3, .int v5), (0, .ref (ad 1)), (1, .int x1), (2, .int x2)]) hx hb d_Tow_crossingY_27 rfl hl (by decide) rfl (fun ls hl => ?_)
  refine lv_aload_n hx hb d_Tow_crossingY_28 rfl (lv_at hl 1 rfl) ?_
  refine lv_aload_n hx hb d_Tow_crossingY_29 rfl (lv_at hl 1 rfl) ?_
  refine xk_get (C := R_Tow) (T := F_Tow) (N := 8) hx hb hts i_Tow hown hK hP 1 xw_C_at_1 rfl 1 (by decide) u_80 rfl d_Tow_crossingY_30 ?_
  refine lv_iload_n hx hb d_Tow_crossingY_33 rfl (lv_at hl 2 rfl) ?_
  obtain ⟨v6, h_v6, hF⟩ := xo_ob hF
  refine xk_iald hx hb hK hP 3 xw_C_at_3 h_v6 d_Tow_crossingY_34 ?_
  refine lv_aload_n hx hb d_Tow_crossingY_35 rfl (lv_at hl 1 rfl) ?_
  refine xk_get (C := R_Tow) (T := F_Tow) (N := 8) hx hb hts i_Tow hown hK hP 1 xw_C_at_1 rfl 2 (by decide) u_83 rfl d_Tow_crossingY_36 ?_
  refine lv_iload_n hx hb d_Tow_crossingY_39 rfl (lv_at hl 2 rfl) ?_
  obtain ⟨v7, h_v7, hF⟩ := xo_ob hF
  refine xk_iald hx hb hK hP 4 xw_C_at_4 h_v7 d_Tow_crossingY_40 ?_
  refine lv_iload_n hx hb d_Tow_crossingY_41 rfl (lv_at hl 3 rfl) ?_
  obtain ⟨v8, h_v8, hF⟩ := xo_ob hF
  refine xk_goI (xk_runV (As := [.int v6, .int v7, .int x2]) (rest := []) hx hb hml hown hts hK hE (fun _ h => h) hP hS ok_Tow_turn in_Tow_turn u_191 (c_Tow_turn l D cI cZ ad A adK adV hDw v6 v7 x2 st v8 h_v8) (va_recv hK hP (ci := 2) (q0 := 1) rfl xw_C_at_1) (by decide) rfl hl.1 rfl (Nat.le_of_ble_eq_true rfl) d_Tow_crossingY_42 ⟨Nat.le_refl _, Nat.le_refl _⟩) (fun _ h => h) hS (fun H locs hP hS => ?_)
  refine lv_if_ge (tgt := 53) hx hb d_Tow_crossingY_45 (by decide) (fun c_2 => ?_) (fun c_2 => ?_)
  · replace hF := xo_if_t c_2 hF
    refine lv_iload_n hx hb d_Tow_crossingY_53 rfl (lv_at hl 0 rfl) ?_
    have q9 := Option.some.inj hF
    subst q9
    exact hret 54 _ _ _ d_Tow_crossingY_54 rfl hP hS
  · replace hF := xo_if_f c_2 hF
    refine lv_iload_n hx hb d_Tow_crossingY_48 rfl (lv_at hl 0 rfl) ?_
    refine lv_ineg hx hb d_Tow_crossingY_49 ?_
    refine lv_goto (tgt := 54) hx hb d_Tow_crossingY_50 (by decide) ?_
    have q9 := Option.some.inj hF
    subst q9
    exact hret 54 _ _ _ d_Tow_crossingY_54 rfl hP hS
set_option maxHeartbeats 4000000 in
set_option maxRecDepth 100000 in
theorem c_Tow_crossingBelow (l : Launch) (D : va_G) (cI cZ : ClassId) (ad : Nat → Nat) (A : Nat → Prop) (adK adV : Nat → Nat) (hDw : ∀ st : XS, va_D A (xw_C ad cI cZ st)) (x1 : Int32) (x2 : Int32) (st : XS) (r9 : Int32) (hF : F_Tow_crossingBelow x1 x2 st = some r9) : K_I l D cI cZ A adK adV (xw_C ad cI cZ) y_Tow_crossingBelow b_Tow_crossingBelow 3 (some .int) 1 23 [.ref (ad 1), .int x1, .int x2] st r9 st := by
  refine xk_startI (by decide) .int rfl (Nat.le_of_ble_eq_true rfl) ?_
  intro p e s m args below meth c Q ls hx hb hml hown hts hK hE hP hS hl hret
  replace hown : s.vm.findClass R_Tow = some m.cls := hown
  replace hl : lv_has ls 3 [(0, .ref (ad 1)), (1, .int x1), (2, .int x2)] := hl
  unfold F_Tow_crossingBelow at hF
  refine lv_aload_n hx hb d_Tow_crossingBelow_0 rfl (lv_at hl 0 rfl) ?_
  refine lv_aload_n hx hb d_Tow_crossingBelow_1 rfl (lv_at hl 0 rfl) ?_
  refine xk_get (C := R_Tow) (T := F_Tow) (N := 8) hx hb hts i_Tow hown hK hP 1 xw_C_at_1 rfl 1 (by decide) u_80 rfl d_Tow_crossingBelow_2 ?_
  refine lv_iload_n hx hb d_Tow_crossingBelow_5 rfl (lv_at hl 1 rfl) ?_
  obtain ⟨v1, h_v1, hF⟩ := xo_ob hF
  refine xk_iald hx hb hK hP 3 xw_C_at_3 h_v1 d_Tow_crossingBelow_6 ?_
  refine lv_aload_n hx hb d_Tow_crossingBelow_7 rfl (lv_at hl 0 rfl) ?_
  refine xk_get (C := R_Tow) (T := F_Tow) (N := 8) hx hb hts i_Tow hown hK hP 1 xw_C_at_1 rfl 2 (by decide) u_83 rfl d_Tow_crossingBelow_8 ?_
  refine lv_iload_n hx hb d_Tow_crossingBelow_11 rfl (lv_at hl 1 rfl) ?_
  obtain ⟨v2, h_v2, hF⟩ := xo_ob hF
  refine xk_iald hx hb hK hP 4 xw_C_at_4 h_v2 d_Tow_crossingBelow_12 ?_
  refine lv_iload_n hx hb d_Tow_crossingBelow_13 rfl (lv_at hl 2 rfl) ?_
  obtain ⟨v3, h_v3, hF⟩ := xo_ob hF
  refine xk_goI (xk_runV (As := [.int v1, .int v2, .int x2]) (rest := []) hx hb hml hown hts hK hE (fun _ h => h) hP hS ok_Tow_turn in_Tow_turn u_191 (c_Tow_turn l D cI cZ ad A adK adV hDw v1 v2 x2 st v3 h_v3) (va_recv hK hP (ci := 2) (q0 := 1) rfl xw_C_at_1) (by decide) rfl hl.1 rfl (Nat.le_of_ble_eq_true rfl) d_Tow_crossingBelow_14 ⟨Nat.le_refl _, Nat.le_refl _⟩) (fun _ h => h) hS (fun H locs hP hS => ?_)
  refine va_mabs hx hb (by rw [hml]; exact hl.1.symm) hown (hts _ u_ms203_abs) (hts _ u_st_abs) (hts _ u_in_Math) (hts _ u_co_abs) (by decide) (Nat.le_of_ble_eq_true rfl) (Nat.le_refl _) (Nat.le_refl _) d_Tow_crossingBelow_17 ?_
  have q9 := Option.some.inj hF
  subst q9
  exact hret 20 _ _ _ d_Tow_crossingBelow_20 rfl hP hS
set_option maxHeartbeats 4000000 in
set_option maxRecDepth 100000 in
theorem c_Tow_copyFrom (l : Launch) (D : va_G) (cI cZ : ClassId) (ad : Nat → Nat) (A : Nat → Prop) (adK adV : Nat → Nat) (hDw : ∀ st : XS, va_D A (xw_C ad cI cZ st)) (st : XS) (st9 : XS) (hF : F_Tow_copyFrom  st = some st9) : K_V l D cI cZ A adK adV (xw_C ad cI cZ) y_Tow_copyFrom b_Tow_copyFrom 2 none 1 60 [.ref (ad 8), .ref (ad 1)] st st9 := by
  refine xk_startV (by decide) rfl (Nat.le_of_ble_eq_true rfl) ?_
  intro p e s m args below meth c Q ls hx hb hml hown hts hK hE hP hS hl hret
  replace hown : s.vm.findClass R_Tow = some m.cls := hown
  replace hl : lv_has ls 2 [(0, .ref (ad 8)), (1, .ref (ad 1))] := hl
  unfold F_Tow_copyFrom at hF
  refine lv_aload_n hx hb d_Tow_copyFrom_0 rfl (lv_at hl 1 rfl) ?_
  refine xk_get (C := R_Tow) (T := F_Tow) (N := 8) hx hb hts i_Tow hown hK hP 1 xw_C_at_1 rfl 0 (by decide) u_77 rfl d_Tow_copyFrom_1 ?_
  refine lv_iconst (v := (0 : Int32)) hx hb d_Tow_copyFrom_4 (by decide) ?_
  refine lv_aload_n hx hb d_Tow_copyFrom_5 rfl (lv_at hl 0 rfl) ?_
  refine xk_get (C := R_Tow) (T := F_Tow) (N := 8) hx hb hts i_Tow hown hK hP 8 xw_C_at_8 rfl 0 (by decide) u_77 rfl d_Tow_copyFrom_6 ?_
  refine lv_iconst (v := (0 : Int32)) hx hb d_Tow_copyFrom_9 (by decide) ?_
  refine lv_bipush (v := (6 : Int32)) hx hb d_Tow_copyFrom_10 (by decide) ?_
  obtain ⟨t1, e_t1, hF⟩ := xo_nm_e hF
  refine va_copyi hx hb (by rw [hml]; exact hl.1.symm) hown (hts _ u_mcopy_s287) (hts _ u_na_copy) (hts _ u_st_copy) (hts _ u_in_Sys) hK hP (hDw _) hS 2 9 0 0 xw_C_at_2 xw_C_at_9 rfl rfl rfl (by decide) (by decide) (by decide) (by decide) (by decide) (fun i _ => rfl) (by decide) (Nat.le_of_ble_eq_true rfl) d_Tow_copyFrom_12 (fun H locs hP _ hS => ?_)
  rw [xw_C_set_9] at hP
  replace hP : va_P D classes (xw_C ad cI cZ t1) H := by rw [e_t1]; exact hP
  clear e_t1
  refine lv_aload_n hx hb d_Tow_copyFrom_15 rfl (lv_at hl 1 rfl) ?_
  refine xk_get (C := R_Tow) (T := F_Tow) (N := 8) hx hb hts i_Tow hown hK hP 1 xw_C_at_1 rfl 1 (by decide) u_80 rfl d_Tow_copyFrom_16 ?_
  refine lv_iconst (v := (0 : Int32)) hx hb d_Tow_copyFrom_19 (by decide) ?_
  refine lv_aload_n hx hb d_Tow_copyFrom_20 rfl (lv_at hl 0 rfl) ?_
  refine xk_get (C := R_Tow) (T := F_Tow) (N := 8) hx hb hts i_Tow hown hK hP 8 xw_C_at_8 rfl 1 (by decide) u_80 rfl d_Tow_copyFrom_21 ?_
  refine lv_iconst (v := (0 : Int32)) hx hb d_Tow_copyFrom_24 (by decide) ?_
  refine lv_bipush (v := (6 : Int32)) hx hb d_Tow_copyFrom_25 (by decide) ?_
  obtain ⟨t2, e_t2, hF⟩ := xo_nm_e hF
  refine va_copyi hx hb (by rw [hml]; exact hl.1.symm) hown (hts _ u_mcopy_s287) (hts _ u_na_copy) (hts _ u_st_copy) (hts _ u_in_Sys) hK hP (hDw _) hS 3 10 0 0 xw_C_at_3 xw_C_at_10 rfl rfl rfl (by decide) (by decide) (by decide) (by decide) (by decide) (fun i _ => rfl) (by decide) (Nat.le_of_ble_eq_true rfl) d_Tow_copyFrom_27 (fun H locs hP _ hS => ?_)
  rw [xw_C_set_10] at hP
  replace hP : va_P D classes (xw_C ad cI cZ t2) H := by rw [e_t2]; exact hP
  clear e_t2
  refine lv_aload_n hx hb d_Tow_copyFrom_30 rfl (lv_at hl 1 rfl) ?_
  refine xk_get (C := R_Tow) (T := F_Tow) (N := 8) hx hb hts i_Tow hown hK hP 1 xw_C_at_1 rfl 2 (by decide) u_83 rfl d_Tow_copyFrom_31 ?_
  refine lv_iconst (v := (0 : Int32)) hx hb d_Tow_copyFrom_34 (by decide) ?_
  refine lv_aload_n hx hb d_Tow_copyFrom_35 rfl (lv_at hl 0 rfl) ?_
  refine xk_get (C := R_Tow) (T := F_Tow) (N := 8) hx hb hts i_Tow hown hK hP 8 xw_C_at_8 rfl 2 (by decide) u_83 rfl d_Tow_copyFrom_36 ?_
  refine lv_iconst (v := (0 : Int32)) hx hb d_Tow_copyFrom_39 (by decide) ?_
  refine lv_bipush (v := (6 : Int32)) hx hb d_Tow_copyFrom_40 (by decide) ?_
  obtain ⟨t3, e_t3, hF⟩ := xo_nm_e hF
  refine va_copyi hx hb (by rw [hml]; exact hl.1.symm) hown (hts _ u_mcopy_s287) (hts _ u_na_copy) (hts _ u_st_copy) (hts _ u_in_Sys) hK hP (hDw _) hS 4 11 0 0 xw_C_at_4 xw_C_at_11 rfl rfl rfl (by decide) (by decide) (by decide) (by decide) (by decide) (fun i _ => rfl) (by decide) (Nat.le_of_ble_eq_true rfl) d_Tow_copyFrom_42 (fun H locs hP _ hS => ?_)
  rw [xw_C_set_11] at hP
  replace hP : va_P D classes (xw_C ad cI cZ t3) H := by rw [e_t3]; exact hP
  clear e_t3
  refine lv_aload_n hx hb d_Tow_copyFrom_45 rfl (lv_at hl 1 rfl) ?_
  refine xk_get (C := R_Tow) (T := F_Tow) (N := 8) hx hb hts i_Tow hown hK hP 1 xw_C_at_1 rfl 3 (by decide) u_86 rfl d_Tow_copyFrom_46 ?_
  refine lv_iconst (v := (0 : Int32)) hx hb d_Tow_copyFrom_49 (by decide) ?_
  refine lv_aload_n hx hb d_Tow_copyFrom_50 rfl (lv_at hl 0 rfl) ?_
  refine xk_get (C := R_Tow) (T := F_Tow) (N := 8) hx hb hts i_Tow hown hK hP 8 xw_C_at_8 rfl 3 (by decide) u_86 rfl d_Tow_copyFrom_51 ?_
  refine lv_iconst (v := (0 : Int32)) hx hb d_Tow_copyFrom_54 (by decide) ?_
  refine lv_bipush (v := (6 : Int32)) hx hb d_Tow_copyFrom_55 (by decide) ?_
  obtain ⟨t4, e_t4, hF⟩ := xo_nm_e hF
  refine va_copyi hx hb (by rw [hml]; exact hl.1.symm) hown (hts _ u_mcopy_s287) (hts _ u_na_copy) (hts _ u_st_copy) (hts _ u_in_Sys) hK hP (hDw _) hS 5 12 0 0 xw_C_at_5 xw_C_at_12 rfl rfl rfl (by decide) (by decide) (by decide) (by decide) (by decide) (fun i _ => rfl) (by decide) (Nat.le_of_ble_eq_true rfl) d_Tow_copyFrom_57 (fun H locs hP _ hS => ?_)
  rw [xw_C_set_12] at hP
  replace hP : va_P D classes (xw_C ad cI cZ t4) H := by rw [e_t4]; exact hP
  clear e_t4
  refine lv_aload_n hx hb d_Tow_copyFrom_60 rfl (lv_at hl 0 rfl) ?_
  refine lv_aload_n hx hb d_Tow_copyFrom_61 rfl (lv_at hl 1 rfl) ?_
  refine xk_get (C := R_Tow) (T := F_Tow) (N := 8) hx hb hts i_Tow hown hK hP 1 xw_C_at_1 rfl 4 (by decide) u_89 rfl d_Tow_copyFrom_62 ?_
  obtain ⟨t5, e_t5, hF⟩ := xo_nm_e hF
  refine xk_put (C := R_Tow) (T := F_Tow) (N := 8) (ty := .int) hx hb hts i_Tow t_Tow t_Tow_ok n_Tow hown hK hP (hDw _) hS 8 xw_C_at_8 rfl 4 (by decide) u_89 rfl (by decide +kernel) rfl rfl (Nat.le_of_ble_eq_true rfl) (xw_C_put_8_4 _) d_Tow_copyFrom_65 (fun H locs hP hS => ?_)
  replace hP : va_P D classes (xw_C ad cI cZ t5) H := by rw [e_t5]; exact hP
  clear e_t5
  refine lv_aload_n hx hb d_Tow_copyFrom_68 rfl (lv_at hl 1 rfl) ?_
  refine xk_get (C := R_Tow) (T := F_Tow) (N := 8) hx hb hts i_Tow hown hK hP 1 xw_C_at_1 rfl 5 (by decide) u_92 rfl d_Tow_copyFrom_69 ?_
  refine lv_iconst (v := (0 : Int32)) hx hb d_Tow_copyFrom_72 (by decide) ?_
  refine lv_aload_n hx hb d_Tow_copyFrom_73 rfl (lv_at hl 0 rfl) ?_
  refine xk_get (C := R_Tow) (T := F_Tow) (N := 8) hx hb hts i_Tow hown hK hP 8 xw_C_at_8 rfl 5 (by decide) u_92 rfl d_Tow_copyFrom_74 ?_
  refine lv_iconst (v := (0 : Int32)) hx hb d_Tow_copyFrom_77 (by decide) ?_
  refine lv_bipush (v := (8 : Int32)) hx hb d_Tow_copyFrom_78 (by decide) ?_
  obtain ⟨t6, e_t6, hF⟩ := xo_nm_e hF
  refine va_copyi hx hb (by rw [hml]; exact hl.1.symm) hown (hts _ u_mcopy_s287) (hts _ u_na_copy) (hts _ u_st_copy) (hts _ u_in_Sys) hK hP (hDw _) hS 6 13 0 0 xw_C_at_6 xw_C_at_13 rfl rfl rfl (by decide) (by decide) (by decide) (by decide) (by decide) (fun i _ => rfl) (by decide) (Nat.le_of_ble_eq_true rfl) d_Tow_copyFrom_80 (fun H locs hP _ hS => ?_)
  rw [xw_C_set_13] at hP
  replace hP : va_P D classes (xw_C ad cI cZ t6) H := by rw [e_t6]; exact hP
  clear e_t6
  refine lv_aload_n hx hb d_Tow_copyFrom_83 rfl (lv_at hl 1 rfl) ?_
  refine xk_get (C := R_Tow) (T := F_Tow) (N := 8) hx hb hts i_Tow hown hK hP 1 xw_C_at_1 rfl 6 (by decide) u_95 rfl d_Tow_copyFrom_84 ?_
  refine lv_iconst (v := (0 : Int32)) hx hb d_Tow_copyFrom_87 (by decide) ?_
  refine lv_aload_n hx hb d_Tow_copyFrom_88 rfl (lv_at hl 0 rfl) ?_
  refine xk_get (C := R_Tow) (T := F_Tow) (N := 8) hx hb hts i_Tow hown hK hP 8 xw_C_at_8 rfl 6 (by decide) u_95 rfl d_Tow_copyFrom_89 ?_
  refine lv_iconst (v := (0 : Int32)) hx hb d_Tow_copyFrom_92 (by decide) ?_
  refine lv_bipush (v := (8 : Int32)) hx hb d_Tow_copyFrom_93 (by decide) ?_
  obtain ⟨t7, e_t7, hF⟩ := xo_nm_e hF
  refine va_copyi hx hb (by rw [hml]; exact hl.1.symm) hown (hts _ u_mcopy_s287) (hts _ u_na_copy) (hts _ u_st_copy) (hts _ u_in_Sys) hK hP (hDw _) hS 7 14 0 0 xw_C_at_7 xw_C_at_14 rfl rfl rfl (by decide) (by decide) (by decide) (by decide) (by decide) (fun i _ => rfl) (by decide) (Nat.le_of_ble_eq_true rfl) d_Tow_copyFrom_95 (fun H locs hP _ hS => ?_)
  rw [xw_C_set_14] at hP
  replace hP : va_P D classes (xw_C ad cI cZ t7) H := by rw [e_t7]; exact hP
  clear e_t7
  refine lv_aload_n hx hb d_Tow_copyFrom_98 rfl (lv_at hl 0 rfl) ?_
  refine lv_aload_n hx hb d_Tow_copyFrom_99 rfl (lv_at hl 1 rfl) ?_
  refine xk_get (C := R_Tow) (T := F_Tow) (N := 8) hx hb hts i_Tow hown hK hP 1 xw_C_at_1 rfl 7 (by decide) u_98 rfl d_Tow_copyFrom_100 ?_
  obtain ⟨t8, e_t8, hF⟩ := xo_nm_e hF
  refine xk_put (C := R_Tow) (T := F_Tow) (N := 8) (ty := .int) hx hb hts i_Tow t_Tow t_Tow_ok n_Tow hown hK hP (hDw _) hS 8 xw_C_at_8 rfl 7 (by decide) u_98 rfl (by decide +kernel) rfl rfl (Nat.le_of_ble_eq_true rfl) (xw_C_put_8_7 _) d_Tow_copyFrom_103 (fun H locs hP hS => ?_)
  replace hP : va_P D classes (xw_C ad cI cZ t8) H := by rw [e_t8]; exact hP
  clear e_t8
  have q9 := Option.some.inj hF
  subst q9
  exact hret 106 _ _ _ d_Tow_copyFrom_106 hP hS
set_option maxHeartbeats 4000000 in
set_option maxRecDepth 100000 in
theorem c_Str_isLatin1 (l : Launch) (D : va_G) (cI cZ : ClassId) (w : XS → va_W) (A : Nat → Prop) (adK adV : Nat → Nat) (st : XS) (r9 : Int32) (hF : F_Str_isLatin1  = some r9) : K_I l D cI cZ A adK adV w y_Str_isLatin1 b_Str_isLatin1 1 (some .boolean) 0 0 [.ref (adK 0)] st r9 st := by
  refine xk_startI (by decide) .boolean rfl (Nat.le_of_ble_eq_true rfl) ?_
  intro p e s m args below meth c Q ls hx hb hml hown hts hK hE hP hS hl hret
  replace hown : s.vm.findClass R_Str = some m.cls := hown
  replace hl : lv_has ls 1 [(0, .ref (adK 0))] := hl
  unfold F_Str_isLatin1 at hF
  refine va_gets (v := .int 1) hx hb hE.1 hS hown (hts _ u_323) (fun _ h9 => h9) d_Str_isLatin1_0 ?_
  refine lv_if_eq (tgt := 17) hx hb d_Str_isLatin1_3 (by decide) (fun c_29 => ?_) (fun c_29 => ?_)
  · replace hF := xo_if_t c_29 hF
    refine lv_iconst (v := (0 : Int32)) hx hb d_Str_isLatin1_17 (by decide) ?_
    have q9 := Option.some.inj hF
    subst q9
    exact hret 18 _ _ _ d_Str_isLatin1_18 rfl hP hS
  · replace hF := xo_if_f c_29 hF
    refine lv_aload_n hx hb d_Str_isLatin1_6 rfl (lv_at hl 0 rfl) ?_
    refine vk_getf (v := .int (0 : Int32)) hx hb (hE.2.1.1 0 (by decide)).2.1 hS hown (hts _ u_977) (fun _ h9 => h9) d_Str_isLatin1_7 ?_
    refine lv_if_ne (tgt := 17) hx hb d_Str_isLatin1_10 (by decide) (fun c_30 => ?_) (fun c_30 => ?_)
    · replace hF := xo_if_f c_30 hF
      refine lv_iconst (v := (0 : Int32)) hx hb d_Str_isLatin1_17 (by decide) ?_
      have q9 := Option.some.inj hF
      subst q9
      exact hret 18 _ _ _ d_Str_isLatin1_18 rfl hP hS
    · replace hF := xo_if_t c_30 hF
      refine lv_iconst (v := (1 : Int32)) hx hb d_Str_isLatin1_13 (by decide) ?_
      refine lv_goto (tgt := 18) hx hb d_Str_isLatin1_14 (by decide) ?_
      have q9 := Option.some.inj hF
      subst q9
      exact hret 18 _ _ _ d_Str_isLatin1_18 rfl hP hS
set_option maxHeartbeats 4000000 in
set_option maxRecDepth 100000 in
theorem c_Str_coder (l : Launch) (D : va_G) (cI cZ : ClassId) (w : XS → va_W) (A : Nat → Prop) (adK adV : Nat → Nat) (st : XS) (r9 : Int32) (hF : F_Str_coder  = some r9) : K_I l D cI cZ A adK adV w y_Str_coder b_Str_coder 1 (some .byte) 0 0 [.ref (adK 0)] st r9 st := by
  refine xk_startI (by decide) .byte rfl (Nat.le_of_ble_eq_true rfl) ?_
  intro p e s m args below meth c Q ls hx hb hml hown hts hK hE hP hS hl hret
  replace hown : s.vm.findClass R_Str = some m.cls := hown
  replace hl : lv_has ls 1 [(0, .ref (adK 0))] := hl
  unfold F_Str_coder at hF
  refine va_gets (v := .int 1) hx hb hE.1 hS hown (hts _ u_323) (fun _ h9 => h9) d_Str_coder_0 ?_
  refine lv_if_eq (tgt := 13) hx hb d_Str_coder_3 (by decide) (fun c_31 => ?_) (fun c_31 => ?_)
  · replace hF := xo_if_t c_31 hF
    refine lv_iconst (v := (1 : Int32)) hx hb d_Str_coder_13 (by decide) ?_
    have q9 := Option.some.inj hF
    subst q9
    exact hret 14 _ _ _ d_Str_coder_14 rfl hP hS
  · replace hF := xo_if_f c_31 hF
    refine lv_aload_n hx hb d_Str_coder_6 rfl (lv_at hl 0 rfl) ?_
    refine vk_getf (v := .int (0 : Int32)) hx hb (hE.2.1.1 0 (by decide)).2.1 hS hown (hts _ u_977) (fun _ h9 => h9) d_Str_coder_7 ?_
    refine lv_goto (tgt := 14) hx hb d_Str_coder_10 (by decide) ?_
    have q9 := Option.some.inj hF
    subst q9
    exact hret 14 _ _ _ d_Str_coder_14 rfl hP hS
set_option maxHeartbeats 4000000 in
set_option maxRecDepth 100000 in
theorem c_Str_length (l : Launch) (D : va_G) (cI cZ : ClassId) (w : XS → va_W) (A : Nat → Prop) (adK adV : Nat → Nat) (st : XS) (r9 : Int32) (hF : F_Str_length  = some r9) : K_I l D cI cZ A adK adV w y_Str_length b_Str_length 1 (some .int) 1 20 [.ref (adK 0)] st r9 st := by
  refine xk_startI (by decide) .int rfl (Nat.le_of_ble_eq_true rfl) ?_
  intro p e s m args below meth c Q ls hx hb hml hown hts hK hE hP hS hl hret
  replace hown : s.vm.findClass R_Str = some m.cls := hown
  replace hl : lv_has ls 1 [(0, .ref (adK 0))] := hl
  unfold F_Str_length at hF
  refine lv_aload_n hx hb d_Str_length_0 rfl (lv_at hl 0 rfl) ?_
  refine vk_getf (v := .ref (adV 0)) hx hb (hE.2.1.1 0 (by decide)).2.2.1 hS hown (hts _ u_978) (fun _ h9 => h9) d_Str_length_1 ?_
  refine va_tlen (v := (6 : Int32)) hx hb (hE.2.1.1 0 (by decide)).2.2.2 hS (by decide) d_Str_length_4 ?_
  refine lv_aload_n hx hb d_Str_length_5 rfl (lv_at hl 0 rfl) ?_
  obtain ⟨v1, h_v1, hF⟩ := xo_ob hF
  refine xk_goI (xk_runV (As := []) (rest := [.int (6 : Int32)]) hx hb hml hown hts hK hE (fun _ h => h) hP hS ok_Str_coder in_Str_coder u_329 (c_Str_coder l D cI cZ w A adK adV st v1 h_v1) (vk_recv hE.2.1 (by decide) hS) (by decide) rfl hl.1 rfl (Nat.le_of_ble_eq_true rfl) d_Str_length_6 ⟨Nat.le_refl _, Nat.le_refl _⟩) (fun _ h => h) hS (fun H locs hP hS => ?_)
  refine lv_ishr hx hb d_Str_length_9 ?_
  have q9 := Option.some.inj hF
  subst q9
  exact hret 10 _ _ _ d_Str_length_10 rfl hP hS
set_option maxHeartbeats 4000000 in
set_option maxRecDepth 100000 in
theorem c_Lat_canEncode (l : Launch) (D : va_G) (cI cZ : ClassId) (w : XS → va_W) (A : Nat → Prop) (adK adV : Nat → Nat) (x0 : Int32) (st : XS) (r9 : Int32) (hF : F_Lat_canEncode x0 = some r9) : K_I l D cI cZ A adK adV w y_Lat_canEncode b_Lat_canEncode 1 (some .boolean) 0 0 [.int x0] st r9 st := by
  refine xk_startI (by decide) .boolean rfl (Nat.le_of_ble_eq_true rfl) ?_
  intro p e s m args below meth c Q ls hx hb hml hown hts hK hE hP hS hl hret
  replace hown : s.vm.findClass R_Lat = some m.cls := hown
  replace hl : lv_has ls 1 [(0, .int x0)] := hl
  unfold F_Lat_canEncode at hF
  refine lv_iload_n hx hb d_Lat_canEncode_0 rfl (lv_at hl 0 rfl) ?_
  refine lv_if_lt (tgt := 15) hx hb d_Lat_canEncode_1 (by decide) (fun c_32 => ?_) (fun c_32 => ?_)
  · replace hF := xo_if_t c_32 hF
    refine lv_iconst (v := (0 : Int32)) hx hb d_Lat_canEncode_15 (by decide) ?_
    have q9 := Option.some.inj hF
    subst q9
    exact hret 16 _ _ _ d_Lat_canEncode_16 rfl hP hS
  · replace hF := xo_if_f c_32 hF
    refine lv_iload_n hx hb d_Lat_canEncode_4 rfl (lv_at hl 0 rfl) ?_
    refine lv_sipush (v := (255 : Int32)) hx hb d_Lat_canEncode_5 (by decide) ?_
    refine lv_icmp_gt (tgt := 15) hx hb d_Lat_canEncode_8 (by decide) (fun c_33 => ?_) (fun c_33 => ?_)
    · replace hF := xo_if_t c_33 hF
      refine lv_iconst (v := (0 : Int32)) hx hb d_Lat_canEncode_15 (by decide) ?_
      have q9 := Option.some.inj hF
      subst q9
      exact hret 16 _ _ _ d_Lat_canEncode_16 rfl hP hS
    · replace hF := xo_if_f c_33 hF
      refine lv_iconst (v := (1 : Int32)) hx hb d_Lat_canEncode_11 (by decide) ?_
      refine lv_goto (tgt := 16) hx hb d_Lat_canEncode_12 (by decide) ?_
      have q9 := Option.some.inj hF
      subst q9
      exact hret 16 _ _ _ d_Lat_canEncode_16 rfl hP hS
set_option maxHeartbeats 4000000 in
set_option maxRecDepth 100000 in
theorem c_Lat_indexOfChar (l : Launch) (D : va_G) (cI cZ : ClassId) (w : XS → va_W) (A : Nat → Prop) (adK adV : Nat → Nat) (x1 : Int32) (x2 : Int32) (x3 : Int32) (st : XS) (r9 : Int32) (hF : F_Lat_indexOfChar x1 x2 x3 = some r9) : K_I l D cI cZ A adK adV w y_Lat_indexOfChar b_Lat_indexOfChar 6 (some .int) 0 0 [.ref (adV 0), .int x1, .int x2, .int x3] st r9 st := by
  refine xk_startI (by decide) .int rfl (Nat.le_of_ble_eq_true rfl) ?_
  intro p e s m args below meth c Q ls hx hb hml hown hts hK hE hP hS hl hret
  replace hown : s.vm.findClass R_Lat = some m.cls := hown
  replace hl : lv_has ls 6 [(0, .ref (adV 0)), (1, .int x1), (2, .int x2), (3, .int x3)] := hl
  unfold F_Lat_indexOfChar at hF
  refine lv_iload_n hx hb d_Lat_indexOfChar_0 rfl (lv_at hl 1 rfl) ?_
  refine lv_i2b (v := (x1.toInt8.toInt32)) hx hb d_Lat_indexOfChar_1 rfl ?_
  refine lv_topi (fun v1 e_v1 => ?_)
  replace hF := xo_nm_u hF e_v1
  clear e_v1
  refine lv_istore (lv' := [(4, .int v1), (0, .ref (adV 0)), (1, .int x1), (2, .int x2), (3, .int x3)]) hx hb d_Lat_indexOfChar_2 hl (by decide) rfl (fun ls hl => ?_)
  refine lv_iload_n hx hb d_Lat_indexOfChar_4 rfl (lv_at hl 3 rfl) ?_
  refine lv_istore (lv' := [(5, .int x2), (4, .int v1), (0, .ref (adV 0)), (1, .int x1), (2, .int x2), (3, .int x3)]) hx hb d_Lat_indexOfChar_5 hl (by decide) rfl (fun ls hl => ?_)
  have lp7 : ∀ (n : Nat) (w7_5 : Int32) (y : (Int32 ⊕ Unit)), xo_lp (fun q : Int32 => F_Lat_indexOfChar_b7 x3 v1 q) n w7_5 = some y → (∀ (e5 : Int32), (.inl e5) = y → ∀ (H : Heap) (locs : List Loc) (ls : Array Slot), va_P D classes (w st) H → va_S A s.heap H locs → lv_has ls 6 [(5, .int e5)] → W p l e (xk_rm 0 0) s m args below meth c H locs 0 0 Q (F0 m 22 ls [])) → ((.inr ()) = y → ∀ (H : Heap) (locs : List Loc) (ls : Array Slot), va_P D classes (w st) H → va_S A s.heap H locs → lv_has ls 6 [] → W p l e (xk_rm 0 0) s m args below meth c H locs 0 0 Q (F0 m 31 ls [])) → ∀ (H : Heap) (locs : List Loc) (ls : Array Slot), va_P D classes (w st) H → va_S A s.heap H locs → lv_has ls 6 [(0, .ref (adV 0)), (3, .int x3), (4, .int v1), (5, .int w7_5)] → W p l e (xk_rm 0 0) s m args below meth c H locs 0 0 Q (F0 m 7 ls []) := by
    intro n
    induction n with
    | zero =>
      intro w7_5 y hL
      exact nomatch (show (none : Option _) = some y from hL)
    | succ n ih =>
      intro w7_5 y hL kx0 kx1 H locs ls hP hS hl
      obtain ⟨z9, hB, hL⟩ := xo_lp_s hL
      replace hB : F_Lat_indexOfChar_b7 x3 v1 w7_5 = some z9 := hB
      unfold F_Lat_indexOfChar_b7 at hB
      refine lv_iload hx hb d_Lat_indexOfChar_7 (lv_at hl 3 rfl) ?_
      refine lv_iload_n hx hb d_Lat_indexOfChar_9 rfl (lv_at hl 1 rfl) ?_
      refine lv_icmp_ge (tgt := 31) hx hb d_Lat_indexOfChar_10 (by decide) (fun c_34 => ?_) (fun c_34 => ?_)
      · replace hB := xo_if_t c_34 hB
        have q9 := Option.some.inj hB
        subst q9
        replace hL := Option.some.inj (xo_elR hL)
        subst hL
        exact kx1  rfl _ _ _ hP hS (lv_sub hl [] rfl)
      · replace hB := xo_if_f c_34 hB
        refine lv_aload_n hx hb d_Lat_indexOfChar_13 rfl (lv_at hl 0 rfl) ?_
        refine lv_iload hx hb d_Lat_indexOfChar_14 (lv_at hl 3 rfl) ?_
        obtain ⟨v3, h_v3, hB⟩ := xo_ob hB
        obtain ⟨h_v3, e_v3⟩ := xo_rd_e h_v3
        refine va_tb (v := .int v3) hx hb (hE.2.1.1 0 (by decide)).2.2.2 hS h_v3 (congrArg Value.int e_v3) d_Lat_indexOfChar_16 ?_
        refine lv_iload hx hb d_Lat_indexOfChar_17 (lv_at hl 2 rfl) ?_
        refine lv_icmp_ne (tgt := 25) hx hb d_Lat_indexOfChar_19 (by decide) (fun c_35 => ?_) (fun c_35 => ?_)
        · replace hB := xo_if_f c_35 hB
          obtain ⟨v4, e_v4, hB⟩ := xo_nm_e hB
          refine lv_iinc (v := v4) (lv' := [(5, .int v4), (0, .ref (adV 0)), (3, .int x3), (4, .int v1)]) hx hb d_Lat_indexOfChar_25 hl (k := 3) rfl (by rw [e_v4]; rfl) (by decide) rfl (fun ls hl => ?_)
          clear e_v4
          refine lv_goto (tgt := 7) hx hb d_Lat_indexOfChar_28 (by decide) ?_
          have q9 := Option.some.inj hB
          subst q9
          exact ih _ _ (xo_elL hL) kx0 kx1 _ _ _ hP hS (lv_sub hl [1, 2, 3, 0] rfl)
        · replace hB := xo_if_t c_35 hB
          have q9 := Option.some.inj hB
          subst q9
          replace hL := Option.some.inj (xo_elR hL)
          subst hL
          exact kx0 _ rfl _ _ _ hP hS (lv_sub hl [3] rfl)
  obtain ⟨y7, hL7, hF⟩ := xo_ob hF
  refine lp7 1000000 x2 y7 hL7 ?_ ?_ _ _ _ hP hS (lv_sub hl [2, 5, 1, 0] rfl)
  · intro o2 ey H locs ls hP hS hl
    subst ey
    replace hF := xo_elL hF
    refine lv_iload hx hb d_Lat_indexOfChar_22 (lv_at hl 0 rfl) ?_
    have q9 := Option.some.inj hF
    subst q9
    exact hret 24 _ _ _ d_Lat_indexOfChar_24 rfl hP hS
  · intro  ey H locs ls hP hS hl
    subst ey
    replace hF := xo_elR hF
    refine lv_iconst (v := (-1 : Int32)) hx hb d_Lat_indexOfChar_31 (by decide) ?_
    have q9 := Option.some.inj hF
    subst q9
    exact hret 32 _ _ _ d_Lat_indexOfChar_32 rfl hP hS
set_option maxHeartbeats 4000000 in
set_option maxRecDepth 100000 in
theorem c_Lat_indexOf (l : Launch) (D : va_G) (cI cZ : ClassId) (w : XS → va_W) (A : Nat → Prop) (adK adV : Nat → Nat) (x1 : Int32) (x2 : Int32) (x3 : Int32) (st : XS) (r9 : Int32) (hF : F_Lat_indexOf x1 x2 x3 = some r9) : K_I l D cI cZ A adK adV w y_Lat_indexOf b_Lat_indexOf 4 (some .int) 1 25 [.ref (adV 0), .int x1, .int x2, .int x3] st r9 st := by
  refine xk_startI (by decide) .int rfl (Nat.le_of_ble_eq_true rfl) ?_
  intro p e s m args below meth c Q ls hx hb hml hown hts hK hE hP hS hl hret
  replace hown : s.vm.findClass R_Lat = some m.cls := hown
  replace hl : lv_has ls 4 [(0, .ref (adV 0)), (1, .int x1), (2, .int x2), (3, .int x3)] := hl
  unfold F_Lat_indexOf at hF
  refine lv_iload_n hx hb d_Lat_indexOf_0 rfl (lv_at hl 1 rfl) ?_
  obtain ⟨v1, h_v1, hF⟩ := xo_ob hF
  refine xk_goI (xk_runS (As := [.int x1]) (rest := []) hx hb hml hown hts hK hE (fun _ h => h) hP hS ok_Lat_canEncode st_Lat_canEncode u_336 (c_Lat_canEncode l D cI cZ w A adK adV x1 st v1 h_v1) (by decide) rfl hl.1 rfl (Nat.le_of_ble_eq_true rfl) d_Lat_indexOf_1 ⟨Nat.le_refl _, Nat.le_refl _⟩) (fun _ h => h) hS (fun H locs hP hS => ?_)
  refine lv_if_ne (tgt := 9) hx hb d_Lat_indexOf_4 (by decide) (fun c_36 => ?_) (fun c_36 => ?_)
  · replace hF := xo_if_f c_36 hF
    refine lv_iload_n hx hb d_Lat_indexOf_9 rfl (lv_at hl 2 rfl) ?_
    refine lv_iconst (v := (0 : Int32)) hx hb d_Lat_indexOf_10 (by decide) ?_
    refine va_mmax hx hb (by rw [hml]; exact hl.1.symm) hown (hts _ u_ms339_max) (hts _ u_st_max) (hts _ u_in_Math) (hts _ u_co_max) (by decide) (Nat.le_of_ble_eq_true rfl) (Nat.le_refl _) (Nat.le_refl _) d_Lat_indexOf_11 ?_
    refine lv_topi (fun v2 e_v2 => ?_)
    replace hF := xo_nm_u hF e_v2
    clear e_v2
    refine lv_istore_n (lv' := [(2, .int v2), (0, .ref (adV 0)), (1, .int x1), (3, .int x3)]) hx hb d_Lat_indexOf_14 rfl hl (by decide) rfl (fun ls hl => ?_)
    refine lv_iload_n hx hb d_Lat_indexOf_15 rfl (lv_at hl 3 rfl) ?_
    refine lv_aload_n hx hb d_Lat_indexOf_16 rfl (lv_at hl 1 rfl) ?_
    refine va_tlen (v := (6 : Int32)) hx hb (hE.2.1.1 0 (by decide)).2.2.2 hS (by decide) d_Lat_indexOf_17 ?_
    refine va_mmin hx hb (by rw [hml]; exact hl.1.symm) hown (hts _ u_ms342_min) (hts _ u_st_min) (hts _ u_in_Math) (hts _ u_co_min) (by decide) (Nat.le_of_ble_eq_true rfl) (Nat.le_refl _) (Nat.le_refl _) d_Lat_indexOf_18 ?_
    refine lv_topi (fun v3 e_v3 => ?_)
    replace hF := xo_nm_u hF e_v3
    clear e_v3
    refine lv_istore_n (lv' := [(3, .int v3), (2, .int v2), (0, .ref (adV 0)), (1, .int x1)]) hx hb d_Lat_indexOf_21 rfl hl (by decide) rfl (fun ls hl => ?_)
    refine lv_iload_n hx hb d_Lat_indexOf_22 rfl (lv_at hl 1 rfl) ?_
    refine lv_iload_n hx hb d_Lat_indexOf_23 rfl (lv_at hl 0 rfl) ?_
    refine lv_icmp_lt (tgt := 29) hx hb d_Lat_indexOf_24 (by decide) (fun c_37 => ?_) (fun c_37 => ?_)
    · replace hF := xo_if_t c_37 hF
      refine lv_aload_n hx hb d_Lat_indexOf_29 rfl (lv_at hl 2 rfl) ?_
      refine lv_iload_n hx hb d_Lat_indexOf_30 rfl (lv_at hl 3 rfl) ?_
      refine lv_iload_n hx hb d_Lat_indexOf_31 rfl (lv_at hl 1 rfl) ?_
      refine lv_iload_n hx hb d_Lat_indexOf_32 rfl (lv_at hl 0 rfl) ?_
      obtain ⟨v4, h_v4, hF⟩ := xo_ob hF
      refine xk_goI (xk_runS (As := [.ref (adV 0), .int x1, .int v2, .int v3]) (rest := []) hx hb hml hown hts hK hE (fun _ h => h) hP hS ok_Lat_indexOfChar st_Lat_indexOfChar u_345 (c_Lat_indexOfChar l D cI cZ w A adK adV x1 v2 v3 st v4 h_v4) (by decide) rfl hl.1 rfl (Nat.le_of_ble_eq_true rfl) d_Lat_indexOf_33 ⟨Nat.le_refl _, Nat.le_refl _⟩) (fun _ h => h) hS (fun H locs hP hS => ?_)
      have q9 := Option.some.inj hF
      subst q9
      exact hret 36 _ _ _ d_Lat_indexOf_36 rfl hP hS
    · replace hF := xo_if_f c_37 hF
      refine lv_iconst (v := (-1 : Int32)) hx hb d_Lat_indexOf_27 (by decide) ?_
      have q9 := Option.some.inj hF
      subst q9
      exact hret 28 _ _ _ d_Lat_indexOf_28 rfl hP hS
  · replace hF := xo_if_t c_36 hF
    refine lv_iconst (v := (-1 : Int32)) hx hb d_Lat_indexOf_7 (by decide) ?_
    have q9 := Option.some.inj hF
    subst q9
    exact hret 8 _ _ _ d_Lat_indexOf_8 rfl hP hS
set_option maxHeartbeats 4000000 in
set_option maxRecDepth 100000 in
theorem c_Str_indexOf2 (l : Launch) (D : va_G) (cI cZ : ClassId) (w : XS → va_W) (A : Nat → Prop) (adK adV : Nat → Nat) (x1 : Int32) (x2 : Int32) (st : XS) (r9 : Int32) (hF : F_Str_indexOf2 x1 x2 = some r9) : K_I l D cI cZ A adK adV w y_Str_indexOf2 b_Str_indexOf2 3 (some .int) 2 48 [.ref (adK 0), .int x1, .int x2] st r9 st := by
  refine xk_startI (by decide) .int rfl (Nat.le_of_ble_eq_true rfl) ?_
  intro p e s m args below meth c Q ls hx hb hml hown hts hK hE hP hS hl hret
  replace hown : s.vm.findClass R_Str = some m.cls := hown
  replace hl : lv_has ls 3 [(0, .ref (adK 0)), (1, .int x1), (2, .int x2)] := hl
  unfold F_Str_indexOf2 at hF
  refine lv_aload_n hx hb d_Str_indexOf2_0 rfl (lv_at hl 0 rfl) ?_
  obtain ⟨v1, h_v1, hF⟩ := xo_ob hF
  refine xk_goI (xk_runV (As := []) (rest := []) hx hb hml hown hts hK hE (fun _ h => h) hP hS ok_Str_isLatin1 in_Str_isLatin1 u_319 (c_Str_isLatin1 l D cI cZ w A adK adV st v1 h_v1) (vk_recv hE.2.1 (by decide) hS) (by decide) rfl hl.1 rfl (Nat.le_of_ble_eq_true rfl) d_Str_indexOf2_1 ⟨Nat.le_refl _, Nat.le_refl _⟩) (fun _ h => h) hS (fun H locs hP hS => ?_)
  refine lv_if_eq (tgt := 23) hx hb d_Str_indexOf2_4 (by decide) (fun c_38 => ?_) (fun c_38 => ?_)
  · replace hF := xo_if_t c_38 hF
    exact nomatch hF
  · replace hF := xo_if_f c_38 hF
    refine lv_aload_n hx hb d_Str_indexOf2_7 rfl (lv_at hl 0 rfl) ?_
    refine vk_getf (v := .ref (adV 0)) hx hb (hE.2.1.1 0 (by decide)).2.2.1 hS hown (hts _ u_978) (fun _ h9 => h9) d_Str_indexOf2_8 ?_
    refine lv_iload_n hx hb d_Str_indexOf2_11 rfl (lv_at hl 1 rfl) ?_
    refine lv_iload_n hx hb d_Str_indexOf2_12 rfl (lv_at hl 2 rfl) ?_
    refine lv_aload_n hx hb d_Str_indexOf2_13 rfl (lv_at hl 0 rfl) ?_
    obtain ⟨v2, h_v2, hF⟩ := xo_ob hF
    refine xk_goI (xk_runV (As := []) (rest := [.int x2, .int x1, .ref (adV 0)]) hx hb hml hown hts hK hE (fun _ h => h) hP hS ok_Str_length in_Str_length u_325 (c_Str_length l D cI cZ w A adK adV st v2 h_v2) (vk_recv hE.2.1 (by decide) hS) (by decide) rfl hl.1 rfl (Nat.le_of_ble_eq_true rfl) d_Str_indexOf2_14 ⟨Nat.le_refl _, Nat.le_refl _⟩) (fun _ h => h) hS (fun H locs hP hS => ?_)
    obtain ⟨v3, h_v3, hF⟩ := xo_ob hF
    refine xk_goI (xk_runS (As := [.ref (adV 0), .int x1, .int x2, .int v2]) (rest := []) hx hb hml hown hts hK hE (fun _ h => h) hP hS ok_Lat_indexOf st_Lat_indexOf u_333 (c_Lat_indexOf l D cI cZ w A adK adV x1 x2 v2 st v3 h_v3) (by decide) rfl hl.1 rfl (Nat.le_of_ble_eq_true rfl) d_Str_indexOf2_17 ⟨Nat.le_refl _, Nat.le_refl _⟩) (fun _ h => h) hS (fun H locs hP hS => ?_)
    refine lv_goto (tgt := 36) hx hb d_Str_indexOf2_20 (by decide) ?_
    have q9 := Option.some.inj hF
    subst q9
    exact hret 36 _ _ _ d_Str_indexOf2_36 rfl hP hS
set_option maxHeartbeats 4000000 in
set_option maxRecDepth 100000 in
theorem c_Str_indexOf1 (l : Launch) (D : va_G) (cI cZ : ClassId) (w : XS → va_W) (A : Nat → Prop) (adK adV : Nat → Nat) (x1 : Int32) (st : XS) (r9 : Int32) (hF : F_Str_indexOf1 x1 = some r9) : K_I l D cI cZ A adK adV w y_Str_indexOf1 b_Str_indexOf1 2 (some .int) 3 70 [.ref (adK 0), .int x1] st r9 st := by
  refine xk_startI (by decide) .int rfl (Nat.le_of_ble_eq_true rfl) ?_
  intro p e s m args below meth c Q ls hx hb hml hown hts hK hE hP hS hl hret
  replace hown : s.vm.findClass R_Str = some m.cls := hown
  replace hl : lv_has ls 2 [(0, .ref (adK 0)), (1, .int x1)] := hl
  unfold F_Str_indexOf1 at hF
  refine lv_aload_n hx hb d_Str_indexOf1_0 rfl (lv_at hl 0 rfl) ?_
  refine lv_iload_n hx hb d_Str_indexOf1_1 rfl (lv_at hl 1 rfl) ?_
  refine lv_iconst (v := (0 : Int32)) hx hb d_Str_indexOf1_2 (by decide) ?_
  obtain ⟨v1, h_v1, hF⟩ := xo_ob hF
  refine xk_goI (xk_runV (As := [.int x1, .int (0 : Int32)]) (rest := []) hx hb hml hown hts hK hE (fun _ h => h) hP hS ok_Str_indexOf2 in_Str_indexOf2 u_315 (c_Str_indexOf2 l D cI cZ w A adK adV x1 (0 : Int32) st v1 h_v1) (vk_recv hE.2.1 (by decide) hS) (by decide) rfl hl.1 rfl (Nat.le_of_ble_eq_true rfl) d_Str_indexOf1_3 ⟨Nat.le_refl _, Nat.le_refl _⟩) (fun _ h => h) hS (fun H locs hP hS => ?_)
  have q9 := Option.some.inj hF
  subst q9
  exact hret 6 _ _ _ d_Str_indexOf1_6 rfl hP hS
set_option maxHeartbeats 4000000 in
set_option maxRecDepth 100000 in
theorem c_Tow_putPlot (l : Launch) (D : va_G) (cI cZ : ClassId) (ad : Nat → Nat) (A : Nat → Prop) (adK adV : Nat → Nat) (hDw : ∀ st : XS, va_D A (xw_C ad cI cZ st)) (x1 : Int32) (x2 : Int32) (st : XS) (r9 : Int32) (st9 : XS) (hF : F_Tow_putPlot x1 x2 st = some (r9, st9)) : K_I l D cI cZ A adK adV (xw_C ad cI cZ) y_Tow_putPlot b_Tow_putPlot 4 (some .boolean) 1 21 [.ref (ad 8), .int x1, .int x2] st r9 st9 := by
  refine xk_startI (by decide) .boolean rfl (Nat.le_of_ble_eq_true rfl) ?_
  intro p e s m args below meth c Q ls hx hb hml hown hts hK hE hP hS hl hret
  replace hown : s.vm.findClass R_Tow = some m.cls := hown
  replace hl : lv_has ls 4 [(0, .ref (ad 8)), (1, .int x1), (2, .int x2)] := hl
  unfold F_Tow_putPlot at hF
  have mg23 : ∀ (x1 : Int32) (x2 : Int32) (k0 : Int32) (xs : XS), F_Tow_putPlot_m23 x1 x2 k0 xs = some (r9, st9) → ∀ (H : Heap) (locs : List Loc) (ls : Array Slot), va_P D classes (xw_C ad cI cZ xs) H → va_S A s.heap H locs → lv_has ls 4 [(0, .ref (ad 8)), (1, .int x1), (2, .int x2)] → W p l e (xk_rm 1 21) s m args below meth c H locs 0 0 Q (F0 m 23 ls [.int k0]) := by
    intro x1 x2 k0 xs hF H locs ls hP hS hl
    unfold F_Tow_putPlot_m23 at hF
    refine lv_istore_n (lv' := [(3, .int k0), (0, .ref (ad 8)), (1, .int x1), (2, .int x2)]) hx hb d_Tow_putPlot_23 rfl hl (by decide) rfl (fun ls hl => ?_)
    refine lv_iload_n hx hb d_Tow_putPlot_24 rfl (lv_at hl 0 rfl) ?_
    refine lv_if_ne (tgt := 37) hx hb d_Tow_putPlot_25 (by decide) (fun c_63 => ?_) (fun c_63 => ?_)
    · replace hF := xo_if_f c_63 hF
      refine lv_iconst (v := (0 : Int32)) hx hb d_Tow_putPlot_37 (by decide) ?_
      obtain ⟨q8, q9⟩ := xo_s2 hF
      subst q8
      subst q9
      exact hret 38 _ _ _ d_Tow_putPlot_38 rfl hP hS
    · replace hF := xo_if_t c_63 hF
      refine lv_aload_n hx hb d_Tow_putPlot_28 rfl (lv_at hl 1 rfl) ?_
      refine xk_get (C := R_Tow) (T := F_Tow) (N := 8) hx hb hts i_Tow hown hK hP 8 xw_C_at_8 rfl 7 (by decide) u_98 rfl d_Tow_putPlot_29 ?_
      refine lv_bipush (v := (8 : Int32)) hx hb d_Tow_putPlot_32 (by decide) ?_
      refine lv_icmp_lt (tgt := 39) hx hb d_Tow_putPlot_34 (by decide) (fun c_64 => ?_) (fun c_64 => ?_)
      · replace hF := xo_if_t c_64 hF
        refine lv_aload_n hx hb d_Tow_putPlot_39 rfl (lv_at hl 1 rfl) ?_
        refine xk_get (C := R_Tow) (T := F_Tow) (N := 8) hx hb hts i_Tow hown hK hP 8 xw_C_at_8 rfl 5 (by decide) u_92 rfl d_Tow_putPlot_40 ?_
        refine lv_aload_n hx hb d_Tow_putPlot_43 rfl (lv_at hl 1 rfl) ?_
        refine xk_get (C := R_Tow) (T := F_Tow) (N := 8) hx hb hts i_Tow hown hK hP 8 xw_C_at_8 rfl 7 (by decide) u_98 rfl d_Tow_putPlot_44 ?_
        refine lv_iload_n hx hb d_Tow_putPlot_47 rfl (lv_at hl 2 rfl) ?_
        obtain ⟨_, h_t1, hF⟩ := xo_ob hF
        obtain ⟨t1, e_t1, hF⟩ := xo_nm_e hF
        refine xk_iast hx hb hK hP (hDw _) hS 13 xw_C_at_13 h_t1 (xw_C_set_13 _) d_Tow_putPlot_48 (fun H locs hP hS => ?_)
        replace hP : va_P D classes (xw_C ad cI cZ t1) H := by rw [e_t1]; exact hP
        clear e_t1
        refine lv_aload_n hx hb d_Tow_putPlot_49 rfl (lv_at hl 1 rfl) ?_
        refine xk_get (C := R_Tow) (T := F_Tow) (N := 8) hx hb hts i_Tow hown hK hP 8 xw_C_at_8 rfl 6 (by decide) u_95 rfl d_Tow_putPlot_50 ?_
        refine lv_aload_n hx hb d_Tow_putPlot_53 rfl (lv_at hl 1 rfl) ?_
        refine xk_get (C := R_Tow) (T := F_Tow) (N := 8) hx hb hts i_Tow hown hK hP 8 xw_C_at_8 rfl 7 (by decide) u_98 rfl d_Tow_putPlot_54 ?_
        refine lv_iload_n hx hb d_Tow_putPlot_57 rfl (lv_at hl 3 rfl) ?_
        obtain ⟨_, h_t2, hF⟩ := xo_ob hF
        obtain ⟨t2, e_t2, hF⟩ := xo_nm_e hF
        refine xk_iast hx hb hK hP (hDw _) hS 14 xw_C_at_14 h_t2 (xw_C_set_14 _) d_Tow_putPlot_58 (fun H locs hP hS => ?_)
        replace hP : va_P D classes (xw_C ad cI cZ t2) H := by rw [e_t2]; exact hP
        clear e_t2
        refine lv_aload_n hx hb d_Tow_putPlot_59 rfl (lv_at hl 1 rfl) ?_
        refine lv_dup hx hb d_Tow_putPlot_60 rfl ?_
        refine xk_get (C := R_Tow) (T := F_Tow) (N := 8) hx hb hts i_Tow hown hK hP 8 xw_C_at_8 rfl 7 (by decide) u_98 rfl d_Tow_putPlot_61 ?_
        refine lv_iconst (v := (1 : Int32)) hx hb d_Tow_putPlot_64 (by decide) ?_
        refine lv_iadd hx hb d_Tow_putPlot_65 ?_
        obtain ⟨t3, e_t3, hF⟩ := xo_nm_e hF
        refine xk_put (C := R_Tow) (T := F_Tow) (N := 8) (ty := .int) hx hb hts i_Tow t_Tow t_Tow_ok n_Tow hown hK hP (hDw _) hS 8 xw_C_at_8 rfl 7 (by decide) u_98 rfl (by decide +kernel) rfl rfl (Nat.le_of_ble_eq_true rfl) (xw_C_put_8_7 _) d_Tow_putPlot_66 (fun H locs hP hS => ?_)
        replace hP : va_P D classes (xw_C ad cI cZ t3) H := by rw [e_t3]; exact hP
        clear e_t3
        refine lv_iconst (v := (1 : Int32)) hx hb d_Tow_putPlot_69 (by decide) ?_
        obtain ⟨q8, q9⟩ := xo_s2 hF
        subst q8
        subst q9
        exact hret 70 _ _ _ d_Tow_putPlot_70 rfl hP hS
      · replace hF := xo_if_f c_64 hF
        refine lv_iconst (v := (0 : Int32)) hx hb d_Tow_putPlot_37 (by decide) ?_
        obtain ⟨q8, q9⟩ := xo_s2 hF
        subst q8
        subst q9
        exact hret 38 _ _ _ d_Tow_putPlot_38 rfl hP hS
  have mg18 : ∀ (x1 : Int32) (x2 : Int32) (xs : XS), F_Tow_putPlot_m18 x1 x2 xs = some (r9, st9) → ∀ (H : Heap) (locs : List Loc) (ls : Array Slot), va_P D classes (xw_C ad cI cZ xs) H → va_S A s.heap H locs → lv_has ls 4 [(0, .ref (ad 8)), (1, .int x1), (2, .int x2)] → W p l e (xk_rm 1 21) s m args below meth c H locs 0 0 Q (F0 m 18 ls []) := by
    intro x1 x2 xs hF H locs ls hP hS hl
    unfold F_Tow_putPlot_m18 at hF
    refine lv_iconst (v := (1 : Int32)) hx hb d_Tow_putPlot_18 (by decide) ?_
    refine lv_goto (tgt := 23) hx hb d_Tow_putPlot_19 (by decide) ?_
    exact mg23 _ _ _ _ hF _ _ _ hP hS (lv_sub hl [0, 1, 2] rfl)
  refine lv_iload_n hx hb d_Tow_putPlot_0 rfl (lv_at hl 1 rfl) ?_
  refine va_mabs hx hb (by rw [hml]; exact hl.1.symm) hown (hts _ u_ms203_abs) (hts _ u_st_abs) (hts _ u_in_Math) (hts _ u_co_abs) (by decide) (Nat.le_of_ble_eq_true rfl) (Nat.le_refl _) (Nat.le_refl _) d_Tow_putPlot_1 ?_
  refine lv_bipush (v := (20 : Int32)) hx hb d_Tow_putPlot_4 (by decide) ?_
  refine lv_icmp_gt (tgt := 18) hx hb d_Tow_putPlot_6 (by decide) (fun c_65 => ?_) (fun c_65 => ?_)
  · replace hF := xo_if_t c_65 hF
    exact mg18 _ _ _ hF _ _ _ hP hS (lv_sub hl [0, 1, 2] rfl)
  · replace hF := xo_if_f c_65 hF
    refine lv_iload_n hx hb d_Tow_putPlot_9 rfl (lv_at hl 2 rfl) ?_
    refine va_mabs hx hb (by rw [hml]; exact hl.1.symm) hown (hts _ u_ms203_abs) (hts _ u_st_abs) (hts _ u_in_Math) (hts _ u_co_abs) (by decide) (Nat.le_of_ble_eq_true rfl) (Nat.le_refl _) (Nat.le_refl _) d_Tow_putPlot_10 ?_
    refine lv_bipush (v := (20 : Int32)) hx hb d_Tow_putPlot_13 (by decide) ?_
    refine lv_icmp_le (tgt := 22) hx hb d_Tow_putPlot_15 (by decide) (fun c_66 => ?_) (fun c_66 => ?_)
    · replace hF := xo_if_t c_66 hF
      refine lv_iconst (v := (0 : Int32)) hx hb d_Tow_putPlot_22 (by decide) ?_
      exact mg23 _ _ _ _ hF _ _ _ hP hS (lv_sub hl [0, 1, 2] rfl)
    · replace hF := xo_if_f c_66 hF
      exact mg18 _ _ _ hF _ _ _ hP hS (lv_sub hl [0, 1, 2] rfl)
set_option maxHeartbeats 4000000 in
set_option maxRecDepth 100000 in
theorem c_Tow_turn_v1 (l : Launch) (D : va_G) (cI cZ : ClassId) (ad : Nat → Nat) (A : Nat → Prop) (adK adV : Nat → Nat) (hDw : ∀ st : XS, va_D A (xw_C ad cI cZ st)) (x1 : Int32) (x2 : Int32) (x3 : Int32) (st : XS) (r9 : Int32) (hF : F_Tow_turn_v1 x1 x2 x3 st = some r9) : K_I l D cI cZ A adK adV (xw_C ad cI cZ) y_Tow_turn b_Tow_turn 4 (some .int) 0 0 [.ref (ad 8), .int x1, .int x2, .int x3] st r9 st := by
  refine xk_startI (by decide) .int rfl (Nat.le_of_ble_eq_true rfl) ?_
  intro p e s m args below meth c Q ls hx hb hml hown hts hK hE hP hS hl hret
  replace hown : s.vm.findClass R_Tow = some m.cls := hown
  replace hl : lv_has ls 4 [(0, .ref (ad 8)), (1, .int x1), (2, .int x2), (3, .int x3)] := hl
  unfold F_Tow_turn_v1 at hF
  refine lv_iload_n hx hb d_Tow_turn_0 rfl (lv_at hl 1 rfl) ?_
  refine lv_aload_n hx hb d_Tow_turn_1 rfl (lv_at hl 0 rfl) ?_
  refine xk_get (C := R_Tow) (T := F_Tow) (N := 8) hx hb hts i_Tow hown hK hP 8 xw_C_at_8 rfl 2 (by decide) u_83 rfl d_Tow_turn_2 ?_
  refine lv_iload_n hx hb d_Tow_turn_5 rfl (lv_at hl 3 rfl) ?_
  obtain ⟨v1, h_v1, hF⟩ := xo_ob hF
  refine xk_iald hx hb hK hP 11 xw_C_at_11 h_v1 d_Tow_turn_6 ?_
  refine lv_imul hx hb d_Tow_turn_7 ?_
  refine lv_iload_n hx hb d_Tow_turn_8 rfl (lv_at hl 2 rfl) ?_
  refine lv_aload_n hx hb d_Tow_turn_9 rfl (lv_at hl 0 rfl) ?_
  refine xk_get (C := R_Tow) (T := F_Tow) (N := 8) hx hb hts i_Tow hown hK hP 8 xw_C_at_8 rfl 1 (by decide) u_80 rfl d_Tow_turn_10 ?_
  refine lv_iload_n hx hb d_Tow_turn_13 rfl (lv_at hl 3 rfl) ?_
  obtain ⟨v2, h_v2, hF⟩ := xo_ob hF
  refine xk_iald hx hb hK hP 10 xw_C_at_10 h_v2 d_Tow_turn_14 ?_
  refine lv_imul hx hb d_Tow_turn_15 ?_
  refine lv_isub hx hb d_Tow_turn_16 ?_
  have q9 := Option.some.inj hF
  subst q9
  exact hret 17 _ _ _ d_Tow_turn_17 rfl hP hS
set_option maxHeartbeats 4000000 in
set_option maxRecDepth 100000 in
theorem c_Tow_hasDirection (l : Launch) (D : va_G) (cI cZ : ClassId) (ad : Nat → Nat) (A : Nat → Prop) (adK adV : Nat → Nat) (hDw : ∀ st : XS, va_D A (xw_C ad cI cZ st)) (x1 : Int32) (x2 : Int32) (st : XS) (r9 : Int32) (hF : F_Tow_hasDirection x1 x2 st = some r9) : K_I l D cI cZ A adK adV (xw_C ad cI cZ) y_Tow_hasDirection b_Tow_hasDirection 4 (some .boolean) 1 23 [.ref (ad 8), .int x1, .int x2] st r9 st := by
  refine xk_startI (by decide) .boolean rfl (Nat.le_of_ble_eq_true rfl) ?_
  intro p e s m args below meth c Q ls hx hb hml hown hts hK hE hP hS hl hret
  replace hown : s.vm.findClass R_Tow = some m.cls := hown
  replace hl : lv_has ls 4 [(0, .ref (ad 8)), (1, .int x1), (2, .int x2)] := hl
  unfold F_Tow_hasDirection at hF
  refine lv_iconst (v := (0 : Int32)) hx hb d_Tow_hasDirection_0 (by decide) ?_
  refine lv_istore_n (lv' := [(3, .int (0 : Int32)), (0, .ref (ad 8)), (1, .int x1), (2, .int x2)]) hx hb d_Tow_hasDirection_1 rfl hl (by decide) rfl (fun ls hl => ?_)
  have lp2 : ∀ (n : Nat) (w2_3 : Int32) (y : (Unit ⊕ Unit)), xo_lp (fun q : Int32 => F_Tow_hasDirection_b2 x1 x2 st q) n w2_3 = some y → ((.inl ()) = y → ∀ (H : Heap) (locs : List Loc) (ls : Array Slot), va_P D classes (xw_C ad cI cZ st) H → va_S A s.heap H locs → lv_has ls 4 [] → W p l e (xk_rm 1 23) s m args below meth c H locs 0 0 Q (F0 m 20 ls [])) → ((.inr ()) = y → ∀ (H : Heap) (locs : List Loc) (ls : Array Slot), va_P D classes (xw_C ad cI cZ st) H → va_S A s.heap H locs → lv_has ls 4 [] → W p l e (xk_rm 1 23) s m args below meth c H locs 0 0 Q (F0 m 28 ls [])) → ∀ (H : Heap) (locs : List Loc) (ls : Array Slot), va_P D classes (xw_C ad cI cZ st) H → va_S A s.heap H locs → lv_has ls 4 [(0, .ref (ad 8)), (1, .int x1), (2, .int x2), (3, .int w2_3)] → W p l e (xk_rm 1 23) s m args below meth c H locs 0 0 Q (F0 m 2 ls []) := by
    intro n
    induction n with
    | zero =>
      intro w2_3 y hL
      exact nomatch (show (none : Option _) = some y from hL)
    | succ n ih =>
      intro w2_3 y hL kx0 kx1 H locs ls hP hS hl
      obtain ⟨z9, hB, hL⟩ := xo_lp_s hL
      replace hB : F_Tow_hasDirection_b2 x1 x2 st w2_3 = some z9 := hB
      unfold F_Tow_hasDirection_b2 at hB
      refine lv_iload_n hx hb d_Tow_hasDirection_2 rfl (lv_at hl 3 rfl) ?_
      refine lv_aload_n hx hb d_Tow_hasDirection_3 rfl (lv_at hl 0 rfl) ?_
      refine xk_get (C := R_Tow) (T := F_Tow) (N := 8) hx hb hts i_Tow hown hK hP 8 xw_C_at_8 rfl 4 (by decide) u_89 rfl d_Tow_hasDirection_4 ?_
      refine lv_icmp_ge (tgt := 28) hx hb d_Tow_hasDirection_7 (by decide) (fun c_67 => ?_) (fun c_67 => ?_)
      · replace hB := xo_if_t c_67 hB
        have q9 := Option.some.inj hB
        subst q9
        replace hL := Option.some.inj (xo_elR hL)
        subst hL
        exact kx1  rfl _ _ _ hP hS (lv_sub hl [] rfl)
      · replace hB := xo_if_f c_67 hB
        refine lv_aload_n hx hb d_Tow_hasDirection_10 rfl (lv_at hl 0 rfl) ?_
        refine lv_iload_n hx hb d_Tow_hasDirection_11 rfl (lv_at hl 1 rfl) ?_
        refine lv_iload_n hx hb d_Tow_hasDirection_12 rfl (lv_at hl 2 rfl) ?_
        refine lv_iload_n hx hb d_Tow_hasDirection_13 rfl (lv_at hl 3 rfl) ?_
        obtain ⟨v1, h_v1, hB⟩ := xo_ob hB
        refine xk_goI (xk_runV (As := [.int x1, .int x2, .int w2_3]) (rest := []) hx hb hml hown hts hK hE (fun _ h => h) hP hS ok_Tow_turn in_Tow_turn u_191 (c_Tow_turn_v1 l D cI cZ ad A adK adV hDw x1 x2 w2_3 st v1 h_v1) (va_recv hK hP (ci := 2) (q0 := 8) rfl xw_C_at_8) (by decide) rfl hl.1 rfl (Nat.le_of_ble_eq_true rfl) d_Tow_hasDirection_14 ⟨Nat.le_refl _, Nat.le_refl _⟩) (fun _ h => h) hS (fun H locs hP hS => ?_)
        refine lv_if_ne (tgt := 22) hx hb d_Tow_hasDirection_17 (by decide) (fun c_68 => ?_) (fun c_68 => ?_)
        · replace hB := xo_if_f c_68 hB
          obtain ⟨v2, e_v2, hB⟩ := xo_nm_e hB
          refine lv_iinc (v := v2) (lv' := [(3, .int v2), (0, .ref (ad 8)), (1, .int x1), (2, .int x2)]) hx hb d_Tow_hasDirection_22 hl (k := 3) rfl (by rw [e_v2]; rfl) (by decide) rfl (fun ls hl => ?_)
          clear e_v2
          refine lv_goto (tgt := 2) hx hb d_Tow_hasDirection_25 (by decide) ?_
          have q9 := Option.some.inj hB
          subst q9
          exact ih _ _ (xo_elL hL) kx0 kx1 _ _ _ hP hS (lv_sub hl [1, 2, 3, 0] rfl)
        · replace hB := xo_if_t c_68 hB
          have q9 := Option.some.inj hB
          subst q9
          replace hL := Option.some.inj (xo_elR hL)
          subst hL
          exact kx0  rfl _ _ _ hP hS (lv_sub hl [] rfl)
  obtain ⟨y2, hL2, hF⟩ := xo_ob hF
  refine lp2 1000000 (0 : Int32) y2 hL2 ?_ ?_ _ _ _ hP hS (lv_sub hl [1, 2, 3, 0] rfl)
  · intro  ey H locs ls hP hS hl
    subst ey
    replace hF := xo_elL hF
    refine lv_iconst (v := (1 : Int32)) hx hb d_Tow_hasDirection_20 (by decide) ?_
    have q9 := Option.some.inj hF
    subst q9
    exact hret 21 _ _ _ d_Tow_hasDirection_21 rfl hP hS
  · intro  ey H locs ls hP hS hl
    subst ey
    replace hF := xo_elR hF
    refine lv_iconst (v := (0 : Int32)) hx hb d_Tow_hasDirection_28 (by decide) ?_
    have q9 := Option.some.inj hF
    subst q9
    exact hret 29 _ _ _ d_Tow_hasDirection_29 rfl hP hS
set_option maxHeartbeats 4000000 in
set_option maxRecDepth 100000 in
theorem c_Tow_putStreet (l : Launch) (D : va_G) (cI cZ : ClassId) (ad : Nat → Nat) (A : Nat → Prop) (adK adV : Nat → Nat) (hDw : ∀ st : XS, va_D A (xw_C ad cI cZ st)) (x1 : Int32) (x2 : Int32) (x3 : Int32) (x4 : Int32) (st : XS) (r9 : Int32) (st9 : XS) (hF : F_Tow_putStreet x1 x2 x3 x4 st = some (r9, st9)) : K_I l D cI cZ A adK adV (xw_C ad cI cZ) y_Tow_putStreet b_Tow_putStreet 6 (some .boolean) 2 46 [.ref (ad 8), .int x1, .int x2, .int x3, .int x4] st r9 st9 := by
  refine xk_startI (by decide) .boolean rfl (Nat.le_of_ble_eq_true rfl) ?_
  intro p e s m args below meth c Q ls hx hb hml hown hts hK hE hP hS hl hret
  replace hown : s.vm.findClass R_Tow = some m.cls := hown
  replace hl : lv_has ls 6 [(0, .ref (ad 8)), (1, .int x1), (2, .int x2), (3, .int x3), (4, .int x4)] := hl
  unfold F_Tow_putStreet at hF
  have mg13 : ∀ (x1 : Int32) (x2 : Int32) (x3 : Int32) (x4 : Int32) (k0 : Int32) (xs : XS), F_Tow_putStreet_m13 x1 x2 x3 x4 k0 xs = some (r9, st9) → ∀ (H : Heap) (locs : List Loc) (ls : Array Slot), va_P D classes (xw_C ad cI cZ xs) H → va_S A s.heap H locs → lv_has ls 6 [(0, .ref (ad 8)), (1, .int x1), (2, .int x2), (3, .int x3), (4, .int x4)] → W p l e (xk_rm 2 46) s m args below meth c H locs 0 0 Q (F0 m 13 ls [.int k0]) := by
    intro x1 x2 x3 x4 k0 xs hF H locs ls hP hS hl
    unfold F_Tow_putStreet_m13 at hF
    refine lv_istore (lv' := [(5, .int k0), (0, .ref (ad 8)), (1, .int x1), (2, .int x2), (3, .int x3), (4, .int x4)]) hx hb d_Tow_putStreet_13 hl (by decide) rfl (fun ls hl => ?_)
    refine lv_iload hx hb d_Tow_putStreet_15 (lv_at hl 0 rfl) ?_
    refine lv_if_ne (tgt := 38) hx hb d_Tow_putStreet_17 (by decide) (fun c_69 => ?_) (fun c_69 => ?_)
    · replace hF := xo_if_f c_69 hF
      refine lv_iconst (v := (0 : Int32)) hx hb d_Tow_putStreet_38 (by decide) ?_
      obtain ⟨q8, q9⟩ := xo_s2 hF
      subst q8
      subst q9
      exact hret 39 _ _ _ d_Tow_putStreet_39 rfl hP hS
    · replace hF := xo_if_t c_69 hF
      refine lv_aload_n hx hb d_Tow_putStreet_20 rfl (lv_at hl 1 rfl) ?_
      refine lv_iload_n hx hb d_Tow_putStreet_21 rfl (lv_at hl 3 rfl) ?_
      refine lv_iload_n hx hb d_Tow_putStreet_22 rfl (lv_at hl 4 rfl) ?_
      obtain ⟨v1, h_v1, hF⟩ := xo_ob hF
      refine xk_goI (xk_runV (As := [.int x2, .int x3]) (rest := []) hx hb hml hown hts hK hE (fun _ h => h) hP hS ok_Tow_hasDirection in_Tow_hasDirection u_417 (c_Tow_hasDirection l D cI cZ ad A adK adV hDw x2 x3 xs v1 h_v1) (va_recv hK hP (ci := 2) (q0 := 8) rfl xw_C_at_8) (by decide) rfl hl.1 rfl (Nat.le_of_ble_eq_true rfl) d_Tow_putStreet_23 ⟨Nat.le_refl _, Nat.le_refl _⟩) (fun _ h => h) hS (fun H locs hP hS => ?_)
      refine lv_if_ne (tgt := 38) hx hb d_Tow_putStreet_26 (by decide) (fun c_70 => ?_) (fun c_70 => ?_)
      · replace hF := xo_if_f c_70 hF
        refine lv_iconst (v := (0 : Int32)) hx hb d_Tow_putStreet_38 (by decide) ?_
        obtain ⟨q8, q9⟩ := xo_s2 hF
        subst q8
        subst q9
        exact hret 39 _ _ _ d_Tow_putStreet_39 rfl hP hS
      · replace hF := xo_if_t c_70 hF
        refine lv_aload_n hx hb d_Tow_putStreet_29 rfl (lv_at hl 1 rfl) ?_
        refine xk_get (C := R_Tow) (T := F_Tow) (N := 8) hx hb hts i_Tow hown hK hP 8 xw_C_at_8 rfl 4 (by decide) u_89 rfl d_Tow_putStreet_30 ?_
        refine lv_bipush (v := (6 : Int32)) hx hb d_Tow_putStreet_33 (by decide) ?_
        refine lv_icmp_lt (tgt := 40) hx hb d_Tow_putStreet_35 (by decide) (fun c_71 => ?_) (fun c_71 => ?_)
        · replace hF := xo_if_t c_71 hF
          refine lv_aload_n hx hb d_Tow_putStreet_40 rfl (lv_at hl 1 rfl) ?_
          refine xk_get (C := R_Tow) (T := F_Tow) (N := 8) hx hb hts i_Tow hown hK hP 8 xw_C_at_8 rfl 0 (by decide) u_77 rfl d_Tow_putStreet_41 ?_
          refine lv_aload_n hx hb d_Tow_putStreet_44 rfl (lv_at hl 1 rfl) ?_
          refine xk_get (C := R_Tow) (T := F_Tow) (N := 8) hx hb hts i_Tow hown hK hP 8 xw_C_at_8 rfl 4 (by decide) u_89 rfl d_Tow_putStreet_45 ?_
          refine lv_iload_n hx hb d_Tow_putStreet_48 rfl (lv_at hl 2 rfl) ?_
          obtain ⟨_, h_t2, hF⟩ := xo_ob hF
          obtain ⟨t2, e_t2, hF⟩ := xo_nm_e hF
          refine xk_iast hx hb hK hP (hDw _) hS 9 xw_C_at_9 h_t2 (xw_C_set_9 _) d_Tow_putStreet_49 (fun H locs hP hS => ?_)
          replace hP : va_P D classes (xw_C ad cI cZ t2) H := by rw [e_t2]; exact hP
          clear e_t2
          refine lv_aload_n hx hb d_Tow_putStreet_50 rfl (lv_at hl 1 rfl) ?_
          refine xk_get (C := R_Tow) (T := F_Tow) (N := 8) hx hb hts i_Tow hown hK hP 8 xw_C_at_8 rfl 1 (by decide) u_80 rfl d_Tow_putStreet_51 ?_
          refine lv_aload_n hx hb d_Tow_putStreet_54 rfl (lv_at hl 1 rfl) ?_
          refine xk_get (C := R_Tow) (T := F_Tow) (N := 8) hx hb hts i_Tow hown hK hP 8 xw_C_at_8 rfl 4 (by decide) u_89 rfl d_Tow_putStreet_55 ?_
          refine lv_iload_n hx hb d_Tow_putStreet_58 rfl (lv_at hl 3 rfl) ?_
          obtain ⟨_, h_t3, hF⟩ := xo_ob hF
          obtain ⟨t3, e_t3, hF⟩ := xo_nm_e hF
          refine xk_iast hx hb hK hP (hDw _) hS 10 xw_C_at_10 h_t3 (xw_C_set_10 _) d_Tow_putStreet_59 (fun H locs hP hS => ?_)
          replace hP : va_P D classes (xw_C ad cI cZ t3) H := by rw [e_t3]; exact hP
          clear e_t3
          refine lv_aload_n hx hb d_Tow_putStreet_60 rfl (lv_at hl 1 rfl) ?_
          refine xk_get (C := R_Tow) (T := F_Tow) (N := 8) hx hb hts i_Tow hown hK hP 8 xw_C_at_8 rfl 2 (by decide) u_83 rfl d_Tow_putStreet_61 ?_
          refine lv_aload_n hx hb d_Tow_putStreet_64 rfl (lv_at hl 1 rfl) ?_
          refine xk_get (C := R_Tow) (T := F_Tow) (N := 8) hx hb hts i_Tow hown hK hP 8 xw_C_at_8 rfl 4 (by decide) u_89 rfl d_Tow_putStreet_65 ?_
          refine lv_iload_n hx hb d_Tow_putStreet_68 rfl (lv_at hl 4 rfl) ?_
          obtain ⟨_, h_t4, hF⟩ := xo_ob hF
          obtain ⟨t4, e_t4, hF⟩ := xo_nm_e hF
          refine xk_iast hx hb hK hP (hDw _) hS 11 xw_C_at_11 h_t4 (xw_C_set_11 _) d_Tow_putStreet_69 (fun H locs hP hS => ?_)
          replace hP : va_P D classes (xw_C ad cI cZ t4) H := by rw [e_t4]; exact hP
          clear e_t4
          refine lv_aload_n hx hb d_Tow_putStreet_70 rfl (lv_at hl 1 rfl) ?_
          refine xk_get (C := R_Tow) (T := F_Tow) (N := 8) hx hb hts i_Tow hown hK hP 8 xw_C_at_8 rfl 3 (by decide) u_86 rfl d_Tow_putStreet_71 ?_
          refine lv_aload_n hx hb d_Tow_putStreet_74 rfl (lv_at hl 1 rfl) ?_
          refine xk_get (C := R_Tow) (T := F_Tow) (N := 8) hx hb hts i_Tow hown hK hP 8 xw_C_at_8 rfl 4 (by decide) u_89 rfl d_Tow_putStreet_75 ?_
          refine lv_iload hx hb d_Tow_putStreet_78 (lv_at hl 5 rfl) ?_
          obtain ⟨_, h_t5, hF⟩ := xo_ob hF
          obtain ⟨t5, e_t5, hF⟩ := xo_nm_e hF
          refine xk_iast hx hb hK hP (hDw _) hS 12 xw_C_at_12 h_t5 (xw_C_set_12 _) d_Tow_putStreet_80 (fun H locs hP hS => ?_)
          replace hP : va_P D classes (xw_C ad cI cZ t5) H := by rw [e_t5]; exact hP
          clear e_t5
          refine lv_aload_n hx hb d_Tow_putStreet_81 rfl (lv_at hl 1 rfl) ?_
          refine lv_dup hx hb d_Tow_putStreet_82 rfl ?_
          refine xk_get (C := R_Tow) (T := F_Tow) (N := 8) hx hb hts i_Tow hown hK hP 8 xw_C_at_8 rfl 4 (by decide) u_89 rfl d_Tow_putStreet_83 ?_
          refine lv_iconst (v := (1 : Int32)) hx hb d_Tow_putStreet_86 (by decide) ?_
          refine lv_iadd hx hb d_Tow_putStreet_87 ?_
          obtain ⟨t6, e_t6, hF⟩ := xo_nm_e hF
          refine xk_put (C := R_Tow) (T := F_Tow) (N := 8) (ty := .int) hx hb hts i_Tow t_Tow t_Tow_ok n_Tow hown hK hP (hDw _) hS 8 xw_C_at_8 rfl 4 (by decide) u_89 rfl (by decide +kernel) rfl rfl (Nat.le_of_ble_eq_true rfl) (xw_C_put_8_4 _) d_Tow_putStreet_88 (fun H locs hP hS => ?_)
          replace hP : va_P D classes (xw_C ad cI cZ t6) H := by rw [e_t6]; exact hP
          clear e_t6
          refine lv_iconst (v := (1 : Int32)) hx hb d_Tow_putStreet_91 (by decide) ?_
          obtain ⟨q8, q9⟩ := xo_s2 hF
          subst q8
          subst q9
          exact hret 92 _ _ _ d_Tow_putStreet_92 rfl hP hS
        · replace hF := xo_if_f c_71 hF
          refine lv_iconst (v := (0 : Int32)) hx hb d_Tow_putStreet_38 (by decide) ?_
          obtain ⟨q8, q9⟩ := xo_s2 hF
          subst q8
          subst q9
          exact hret 39 _ _ _ d_Tow_putStreet_39 rfl hP hS
  have mg12 : ∀ (x1 : Int32) (x2 : Int32) (x3 : Int32) (x4 : Int32) (xs : XS), F_Tow_putStreet_m12 x1 x2 x3 x4 xs = some (r9, st9) → ∀ (H : Heap) (locs : List Loc) (ls : Array Slot), va_P D classes (xw_C ad cI cZ xs) H → va_S A s.heap H locs → lv_has ls 6 [(0, .ref (ad 8)), (1, .int x1), (2, .int x2), (3, .int x3), (4, .int x4)] → W p l e (xk_rm 2 46) s m args below meth c H locs 0 0 Q (F0 m 12 ls []) := by
    intro x1 x2 x3 x4 xs hF H locs ls hP hS hl
    unfold F_Tow_putStreet_m12 at hF
    refine lv_iconst (v := (0 : Int32)) hx hb d_Tow_putStreet_12 (by decide) ?_
    exact mg13 _ _ _ _ _ _ hF _ _ _ hP hS (lv_sub hl [0, 1, 2, 3, 4] rfl)
  refine lv_iload_n hx hb d_Tow_putStreet_0 rfl (lv_at hl 2 rfl) ?_
  refine lv_if_ne (tgt := 12) hx hb d_Tow_putStreet_1 (by decide) (fun c_72 => ?_) (fun c_72 => ?_)
  · replace hF := xo_if_f c_72 hF
    exact mg12 _ _ _ _ _ hF _ _ _ hP hS (lv_sub hl [0, 1, 2, 3, 4] rfl)
  · replace hF := xo_if_t c_72 hF
    refine lv_iload_n hx hb d_Tow_putStreet_4 rfl (lv_at hl 3 rfl) ?_
    refine lv_if_ne (tgt := 12) hx hb d_Tow_putStreet_5 (by decide) (fun c_73 => ?_) (fun c_73 => ?_)
    · replace hF := xo_if_f c_73 hF
      exact mg12 _ _ _ _ _ hF _ _ _ hP hS (lv_sub hl [0, 1, 2, 3, 4] rfl)
    · replace hF := xo_if_t c_73 hF
      refine lv_iconst (v := (1 : Int32)) hx hb d_Tow_putStreet_8 (by decide) ?_
      refine lv_goto (tgt := 13) hx hb d_Tow_putStreet_9 (by decide) ?_
      exact mg13 _ _ _ _ _ _ hF _ _ _ hP hS (lv_sub hl [0, 1, 2, 3, 4] rfl)
set_option maxHeartbeats 4000000 in
set_option maxRecDepth 100000 in
theorem c_Tow_copyFrom_v1 (l : Launch) (D : va_G) (cI cZ : ClassId) (ad : Nat → Nat) (A : Nat → Prop) (adK adV : Nat → Nat) (hDw : ∀ st : XS, va_D A (xw_C ad cI cZ st)) (st : XS) (st9 : XS) (hF : F_Tow_copyFrom_v1  st = some st9) : K_V l D cI cZ A adK adV (xw_C ad cI cZ) y_Tow_copyFrom b_Tow_copyFrom 2 none 1 60 [.ref (ad 1), .ref (ad 8)] st st9 := by
  refine xk_startV (by decide) rfl (Nat.le_of_ble_eq_true rfl) ?_
  intro p e s m args below meth c Q ls hx hb hml hown hts hK hE hP hS hl hret
  replace hown : s.vm.findClass R_Tow = some m.cls := hown
  replace hl : lv_has ls 2 [(0, .ref (ad 1)), (1, .ref (ad 8))] := hl
  unfold F_Tow_copyFrom_v1 at hF
  refine lv_aload_n hx hb d_Tow_copyFrom_0 rfl (lv_at hl 1 rfl) ?_
  refine xk_get (C := R_Tow) (T := F_Tow) (N := 8) hx hb hts i_Tow hown hK hP 8 xw_C_at_8 rfl 0 (by decide) u_77 rfl d_Tow_copyFrom_1 ?_
  refine lv_iconst (v := (0 : Int32)) hx hb d_Tow_copyFrom_4 (by decide) ?_
  refine lv_aload_n hx hb d_Tow_copyFrom_5 rfl (lv_at hl 0 rfl) ?_
  refine xk_get (C := R_Tow) (T := F_Tow) (N := 8) hx hb hts i_Tow hown hK hP 1 xw_C_at_1 rfl 0 (by decide) u_77 rfl d_Tow_copyFrom_6 ?_
  refine lv_iconst (v := (0 : Int32)) hx hb d_Tow_copyFrom_9 (by decide) ?_
  refine lv_bipush (v := (6 : Int32)) hx hb d_Tow_copyFrom_10 (by decide) ?_
  obtain ⟨t1, e_t1, hF⟩ := xo_nm_e hF
  refine va_copyi hx hb (by rw [hml]; exact hl.1.symm) hown (hts _ u_mcopy_s287) (hts _ u_na_copy) (hts _ u_st_copy) (hts _ u_in_Sys) hK hP (hDw _) hS 9 2 0 0 xw_C_at_9 xw_C_at_2 rfl rfl rfl (by decide) (by decide) (by decide) (by decide) (by decide) (fun i _ => rfl) (by decide) (Nat.le_of_ble_eq_true rfl) d_Tow_copyFrom_12 (fun H locs hP _ hS => ?_)
  rw [xw_C_set_2] at hP
  replace hP : va_P D classes (xw_C ad cI cZ t1) H := by rw [e_t1]; exact hP
  clear e_t1
  refine lv_aload_n hx hb d_Tow_copyFrom_15 rfl (lv_at hl 1 rfl) ?_
  refine xk_get (C := R_Tow) (T := F_Tow) (N := 8) hx hb hts i_Tow hown hK hP 8 xw_C_at_8 rfl 1 (by decide) u_80 rfl d_Tow_copyFrom_16 ?_
  refine lv_iconst (v := (0 : Int32)) hx hb d_Tow_copyFrom_19 (by decide) ?_
  refine lv_aload_n hx hb d_Tow_copyFrom_20 rfl (lv_at hl 0 rfl) ?_
  refine xk_get (C := R_Tow) (T := F_Tow) (N := 8) hx hb hts i_Tow hown hK hP 1 xw_C_at_1 rfl 1 (by decide) u_80 rfl d_Tow_copyFrom_21 ?_
  refine lv_iconst (v := (0 : Int32)) hx hb d_Tow_copyFrom_24 (by decide) ?_
  refine lv_bipush (v := (6 : Int32)) hx hb d_Tow_copyFrom_25 (by decide) ?_
  obtain ⟨t2, e_t2, hF⟩ := xo_nm_e hF
  refine va_copyi hx hb (by rw [hml]; exact hl.1.symm) hown (hts _ u_mcopy_s287) (hts _ u_na_copy) (hts _ u_st_copy) (hts _ u_in_Sys) hK hP (hDw _) hS 10 3 0 0 xw_C_at_10 xw_C_at_3 rfl rfl rfl (by decide) (by decide) (by decide) (by decide) (by decide) (fun i _ => rfl) (by decide) (Nat.le_of_ble_eq_true rfl) d_Tow_copyFrom_27 (fun H locs hP _ hS => ?_)
  rw [xw_C_set_3] at hP
  replace hP : va_P D classes (xw_C ad cI cZ t2) H := by rw [e_t2]; exact hP
  clear e_t2
  refine lv_aload_n hx hb d_Tow_copyFrom_30 rfl (lv_at hl 1 rfl) ?_
  refine xk_get (C := R_Tow) (T := F_Tow) (N := 8) hx hb hts i_Tow hown hK hP 8 xw_C_at_8 rfl 2 (by decide) u_83 rfl d_Tow_copyFrom_31 ?_
  refine lv_iconst (v := (0 : Int32)) hx hb d_Tow_copyFrom_34 (by decide) ?_
  refine lv_aload_n hx hb d_Tow_copyFrom_35 rfl (lv_at hl 0 rfl) ?_
  refine xk_get (C := R_Tow) (T := F_Tow) (N := 8) hx hb hts i_Tow hown hK hP 1 xw_C_at_1 rfl 2 (by decide) u_83 rfl d_Tow_copyFrom_36 ?_
  refine lv_iconst (v := (0 : Int32)) hx hb d_Tow_copyFrom_39 (by decide) ?_
  refine lv_bipush (v := (6 : Int32)) hx hb d_Tow_copyFrom_40 (by decide) ?_
  obtain ⟨t3, e_t3, hF⟩ := xo_nm_e hF
  refine va_copyi hx hb (by rw [hml]; exact hl.1.symm) hown (hts _ u_mcopy_s287) (hts _ u_na_copy) (hts _ u_st_copy) (hts _ u_in_Sys) hK hP (hDw _) hS 11 4 0 0 xw_C_at_11 xw_C_at_4 rfl rfl rfl (by decide) (by decide) (by decide) (by decide) (by decide) (fun i _ => rfl) (by decide) (Nat.le_of_ble_eq_true rfl) d_Tow_copyFrom_42 (fun H locs hP _ hS => ?_)
  rw [xw_C_set_4] at hP
  replace hP : va_P D classes (xw_C ad cI cZ t3) H := by rw [e_t3]; exact hP
  clear e_t3
  refine lv_aload_n hx hb d_Tow_copyFrom_45 rfl (lv_at hl 1 rfl) ?_
  refine xk_get (C := R_Tow) (T := F_Tow) (N := 8) hx hb hts i_Tow hown hK hP 8 xw_C_at_8 rfl 3 (by decide) u_86 rfl d_Tow_copyFrom_46 ?_
  refine lv_iconst (v := (0 : Int32)) hx hb d_Tow_copyFrom_49 (by decide) ?_
  refine lv_aload_n hx hb d_Tow_copyFrom_50 rfl (lv_at hl 0 rfl) ?_
  refine xk_get (C := R_Tow) (T := F_Tow) (N := 8) hx hb hts i_Tow hown hK hP 1 xw_C_at_1 rfl 3 (by decide) u_86 rfl d_Tow_copyFrom_51 ?_
  refine lv_iconst (v := (0 : Int32)) hx hb d_Tow_copyFrom_54 (by decide) ?_
  refine lv_bipush (v := (6 : Int32)) hx hb d_Tow_copyFrom_55 (by decide) ?_
  obtain ⟨t4, e_t4, hF⟩ := xo_nm_e hF
  refine va_copyi hx hb (by rw [hml]; exact hl.1.symm) hown (hts _ u_mcopy_s287) (hts _ u_na_copy) (hts _ u_st_copy) (hts _ u_in_Sys) hK hP (hDw _) hS 12 5 0 0 xw_C_at_12 xw_C_at_5 rfl rfl rfl (by decide) (by decide) (by decide) (by decide) (by decide) (fun i _ => rfl) (by decide) (Nat.le_of_ble_eq_true rfl) d_Tow_copyFrom_57 (fun H locs hP _ hS => ?_)
  rw [xw_C_set_5] at hP
  replace hP : va_P D classes (xw_C ad cI cZ t4) H := by rw [e_t4]; exact hP
  clear e_t4
  refine lv_aload_n hx hb d_Tow_copyFrom_60 rfl (lv_at hl 0 rfl) ?_
  refine lv_aload_n hx hb d_Tow_copyFrom_61 rfl (lv_at hl 1 rfl) ?_
  refine xk_get (C := R_Tow) (T := F_Tow) (N := 8) hx hb hts i_Tow hown hK hP 8 xw_C_at_8 rfl 4 (by decide) u_89 rfl d_Tow_copyFrom_62 ?_
  obtain ⟨t5, e_t5, hF⟩ := xo_nm_e hF
  refine xk_put (C := R_Tow) (T := F_Tow) (N := 8) (ty := .int) hx hb hts i_Tow t_Tow t_Tow_ok n_Tow hown hK hP (hDw _) hS 1 xw_C_at_1 rfl 4 (by decide) u_89 rfl (by decide +kernel) rfl rfl (Nat.le_of_ble_eq_true rfl) (xw_C_put_1_4 _) d_Tow_copyFrom_65 (fun H locs hP hS => ?_)
  replace hP : va_P D classes (xw_C ad cI cZ t5) H := by rw [e_t5]; exact hP
  clear e_t5
  refine lv_aload_n hx hb d_Tow_copyFrom_68 rfl (lv_at hl 1 rfl) ?_
  refine xk_get (C := R_Tow) (T := F_Tow) (N := 8) hx hb hts i_Tow hown hK hP 8 xw_C_at_8 rfl 5 (by decide) u_92 rfl d_Tow_copyFrom_69 ?_
  refine lv_iconst (v := (0 : Int32)) hx hb d_Tow_copyFrom_72 (by decide) ?_
  refine lv_aload_n hx hb d_Tow_copyFrom_73 rfl (lv_at hl 0 rfl) ?_
  refine xk_get (C := R_Tow) (T := F_Tow) (N := 8) hx hb hts i_Tow hown hK hP 1 xw_C_at_1 rfl 5 (by decide) u_92 rfl d_Tow_copyFrom_74 ?_
  refine lv_iconst (v := (0 : Int32)) hx hb d_Tow_copyFrom_77 (by decide) ?_
  refine lv_bipush (v := (8 : Int32)) hx hb d_Tow_copyFrom_78 (by decide) ?_
  obtain ⟨t6, e_t6, hF⟩ := xo_nm_e hF
  refine va_copyi hx hb (by rw [hml]; exact hl.1.symm) hown (hts _ u_mcopy_s287) (hts _ u_na_copy) (hts _ u_st_copy) (hts _ u_in_Sys) hK hP (hDw _) hS 13 6 0 0 xw_C_at_13 xw_C_at_6 rfl rfl rfl (by decide) (by decide) (by decide) (by decide) (by decide) (fun i _ => rfl) (by decide) (Nat.le_of_ble_eq_true rfl) d_Tow_copyFrom_80 (fun H locs hP _ hS => ?_)
  rw [xw_C_set_6] at hP
  replace hP : va_P D classes (xw_C ad cI cZ t6) H := by rw [e_t6]; exact hP
  clear e_t6
  refine lv_aload_n hx hb d_Tow_copyFrom_83 rfl (lv_at hl 1 rfl) ?_
  refine xk_get (C := R_Tow) (T := F_Tow) (N := 8) hx hb hts i_Tow hown hK hP 8 xw_C_at_8 rfl 6 (by decide) u_95 rfl d_Tow_copyFrom_84 ?_
  refine lv_iconst (v := (0 : Int32)) hx hb d_Tow_copyFrom_87 (by decide) ?_
  refine lv_aload_n hx hb d_Tow_copyFrom_88 rfl (lv_at hl 0 rfl) ?_
  refine xk_get (C := R_Tow) (T := F_Tow) (N := 8) hx hb hts i_Tow hown hK hP 1 xw_C_at_1 rfl 6 (by decide) u_95 rfl d_Tow_copyFrom_89 ?_
  refine lv_iconst (v := (0 : Int32)) hx hb d_Tow_copyFrom_92 (by decide) ?_
  refine lv_bipush (v := (8 : Int32)) hx hb d_Tow_copyFrom_93 (by decide) ?_
  obtain ⟨t7, e_t7, hF⟩ := xo_nm_e hF
  refine va_copyi hx hb (by rw [hml]; exact hl.1.symm) hown (hts _ u_mcopy_s287) (hts _ u_na_copy) (hts _ u_st_copy) (hts _ u_in_Sys) hK hP (hDw _) hS 14 7 0 0 xw_C_at_14 xw_C_at_7 rfl rfl rfl (by decide) (by decide) (by decide) (by decide) (by decide) (fun i _ => rfl) (by decide) (Nat.le_of_ble_eq_true rfl) d_Tow_copyFrom_95 (fun H locs hP _ hS => ?_)
  rw [xw_C_set_7] at hP
  replace hP : va_P D classes (xw_C ad cI cZ t7) H := by rw [e_t7]; exact hP
  clear e_t7
  refine lv_aload_n hx hb d_Tow_copyFrom_98 rfl (lv_at hl 0 rfl) ?_
  refine lv_aload_n hx hb d_Tow_copyFrom_99 rfl (lv_at hl 1 rfl) ?_
  refine xk_get (C := R_Tow) (T := F_Tow) (N := 8) hx hb hts i_Tow hown hK hP 8 xw_C_at_8 rfl 7 (by decide) u_98 rfl d_Tow_copyFrom_100 ?_
  obtain ⟨t8, e_t8, hF⟩ := xo_nm_e hF
  refine xk_put (C := R_Tow) (T := F_Tow) (N := 8) (ty := .int) hx hb hts i_Tow t_Tow t_Tow_ok n_Tow hown hK hP (hDw _) hS 1 xw_C_at_1 rfl 7 (by decide) u_98 rfl (by decide +kernel) rfl rfl (Nat.le_of_ble_eq_true rfl) (xw_C_put_1_7 _) d_Tow_copyFrom_103 (fun H locs hP hS => ?_)
  replace hP : va_P D classes (xw_C ad cI cZ t8) H := by rw [e_t8]; exact hP
  clear e_t8
  have q9 := Option.some.inj hF
  subst q9
  exact hret 106 _ _ _ d_Tow_copyFrom_106 hP hS
set_option maxHeartbeats 4000000 in
set_option maxRecDepth 100000 in
theorem c_Tow_hasStreet (l : Launch) (D : va_G) (cI cZ : ClassId) (ad : Nat → Nat) (A : Nat → Prop) (adK adV : Nat → Nat) (hDw : ∀ st : XS, va_D A (xw_C ad cI cZ st)) (x1 : Int32) (st : XS) (r9 : Int32) (hF : F_Tow_hasStreet x1 st = some r9) : K_I l D cI cZ A adK adV (xw_C ad cI cZ) y_Tow_hasStreet b_Tow_hasStreet 2 (some .boolean) 0 0 [.ref (ad 1), .int x1] st r9 st := by
  refine xk_startI (by decide) .boolean rfl (Nat.le_of_ble_eq_true rfl) ?_
  intro p e s m args below meth c Q ls hx hb hml hown hts hK hE hP hS hl hret
  replace hown : s.vm.findClass R_Tow = some m.cls := hown
  replace hl : lv_has ls 2 [(0, .ref (ad 1)), (1, .int x1)] := hl
  unfold F_Tow_hasStreet at hF
  refine lv_iload_n hx hb d_Tow_hasStreet_0 rfl (lv_at hl 1 rfl) ?_
  refine lv_if_lt (tgt := 16) hx hb d_Tow_hasStreet_1 (by decide) (fun c_80 => ?_) (fun c_80 => ?_)
  · replace hF := xo_if_t c_80 hF
    refine lv_iconst (v := (0 : Int32)) hx hb d_Tow_hasStreet_16 (by decide) ?_
    have q9 := Option.some.inj hF
    subst q9
    exact hret 17 _ _ _ d_Tow_hasStreet_17 rfl hP hS
  · replace hF := xo_if_f c_80 hF
    refine lv_iload_n hx hb d_Tow_hasStreet_4 rfl (lv_at hl 1 rfl) ?_
    refine lv_aload_n hx hb d_Tow_hasStreet_5 rfl (lv_at hl 0 rfl) ?_
    refine xk_get (C := R_Tow) (T := F_Tow) (N := 8) hx hb hts i_Tow hown hK hP 1 xw_C_at_1 rfl 4 (by decide) u_89 rfl d_Tow_hasStreet_6 ?_
    refine lv_icmp_ge (tgt := 16) hx hb d_Tow_hasStreet_9 (by decide) (fun c_81 => ?_) (fun c_81 => ?_)
    · replace hF := xo_if_t c_81 hF
      refine lv_iconst (v := (0 : Int32)) hx hb d_Tow_hasStreet_16 (by decide) ?_
      have q9 := Option.some.inj hF
      subst q9
      exact hret 17 _ _ _ d_Tow_hasStreet_17 rfl hP hS
    · replace hF := xo_if_f c_81 hF
      refine lv_iconst (v := (1 : Int32)) hx hb d_Tow_hasStreet_12 (by decide) ?_
      refine lv_goto (tgt := 17) hx hb d_Tow_hasStreet_13 (by decide) ?_
      have q9 := Option.some.inj hF
      subst q9
      exact hret 17 _ _ _ d_Tow_hasStreet_17 rfl hP hS
set_option maxHeartbeats 4000000 in
set_option maxRecDepth 100000 in
theorem c_Int_bitCount (l : Launch) (D : va_G) (cI cZ : ClassId) (w : XS → va_W) (A : Nat → Prop) (adK adV : Nat → Nat) (x0 : Int32) (st : XS) (r9 : Int32) (hF : F_Int_bitCount x0 = some r9) : K_I l D cI cZ A adK adV w y_Int_bitCount b_Int_bitCount 1 (some .int) 0 0 [.int x0] st r9 st := by
  refine xk_startI (by decide) .int rfl (Nat.le_of_ble_eq_true rfl) ?_
  intro p e s m args below meth c Q ls hx hb hml hown hts hK hE hP hS hl hret
  replace hown : s.vm.findClass R_Int = some m.cls := hown
  replace hl : lv_has ls 1 [(0, .int x0)] := hl
  unfold F_Int_bitCount at hF
  refine lv_iload_n hx hb d_Int_bitCount_0 rfl (lv_at hl 0 rfl) ?_
  refine lv_iload_n hx hb d_Int_bitCount_1 rfl (lv_at hl 0 rfl) ?_
  refine lv_iconst (v := (1 : Int32)) hx hb d_Int_bitCount_2 (by decide) ?_
  refine lv_iushr (v := ((x0.toUInt32 >>> ((1 : Int32).toUInt32 &&& Int32.toUInt32 31)).toInt32)) hx hb d_Int_bitCount_3 rfl ?_
  refine lv_ldcw (v := (1431655765 : Int32)) hx hb hown (hts _ u_450) d_Int_bitCount_4 ?_
  refine lv_iand hx hb d_Int_bitCount_7 ?_
  refine lv_isub hx hb d_Int_bitCount_8 ?_
  refine lv_topi (fun v1 e_v1 => ?_)
  replace hF := xo_nm_u hF e_v1
  clear e_v1
  refine lv_istore_n (lv' := [(0, .int v1)]) hx hb d_Int_bitCount_9 rfl hl (by decide) rfl (fun ls hl => ?_)
  refine lv_iload_n hx hb d_Int_bitCount_10 rfl (lv_at hl 0 rfl) ?_
  refine lv_ldcw (v := (858993459 : Int32)) hx hb hown (hts _ u_451) d_Int_bitCount_11 ?_
  refine lv_iand hx hb d_Int_bitCount_14 ?_
  refine lv_iload_n hx hb d_Int_bitCount_15 rfl (lv_at hl 0 rfl) ?_
  refine lv_iconst (v := (2 : Int32)) hx hb d_Int_bitCount_16 (by decide) ?_
  refine lv_iushr (v := ((v1.toUInt32 >>> ((2 : Int32).toUInt32 &&& Int32.toUInt32 31)).toInt32)) hx hb d_Int_bitCount_17 rfl ?_
  refine lv_ldcw (v := (858993459 : Int32)) hx hb hown (hts _ u_451) d_Int_bitCount_18 ?_
  refine lv_iand hx hb d_Int_bitCount_21 ?_
  refine lv_iadd hx hb d_Int_bitCount_22 ?_
  refine lv_topi (fun v2 e_v2 => ?_)
  replace hF := xo_nm_u hF e_v2
  clear e_v2
  refine lv_istore_n (lv' := [(0, .int v2)]) hx hb d_Int_bitCount_23 rfl hl (by decide) rfl (fun ls hl => ?_)
  refine lv_iload_n hx hb d_Int_bitCount_24 rfl (lv_at hl 0 rfl) ?_
  refine lv_iload_n hx hb d_Int_bitCount_25 rfl (lv_at hl 0 rfl) ?_
  refine lv_iconst (v := (4 : Int32)) hx hb d_Int_bitCount_26 (by decide) ?_
  refine lv_iushr (v := ((v2.toUInt32 >>> ((4 : Int32).toUInt32 &&& Int32.toUInt32 31)).toInt32)) hx hb d_Int_bitCount_27 rfl ?_
  refine lv_iadd hx hb d_Int_bitCount_28 ?_
  refine lv_ldcw (v := (252645135 : Int32)) hx hb hown (hts _ u_452) d_Int_bitCount_29 ?_
  refine lv_iand hx hb d_Int_bitCount_32 ?_
  refine lv_topi (fun v3 e_v3 => ?_)
  replace hF := xo_nm_u hF e_v3
  clear e_v3
  refine lv_istore_n (lv' := [(0, .int v3)]) hx hb d_Int_bitCount_33 rfl hl (by decide) rfl (fun ls hl => ?_)
  refine lv_iload_n hx hb d_Int_bitCount_34 rfl (lv_at hl 0 rfl) ?_
  refine lv_iload_n hx hb d_Int_bitCount_35 rfl (lv_at hl 0 rfl) ?_
  refine lv_bipush (v := (8 : Int32)) hx hb d_Int_bitCount_36 (by decide) ?_
  refine lv_iushr (v := ((v3.toUInt32 >>> ((8 : Int32).toUInt32 &&& Int32.toUInt32 31)).toInt32)) hx hb d_Int_bitCount_38 rfl ?_
  refine lv_iadd hx hb d_Int_bitCount_39 ?_
  refine lv_topi (fun v4 e_v4 => ?_)
  replace hF := xo_nm_u hF e_v4
  clear e_v4
  refine lv_istore_n (lv' := [(0, .int v4)]) hx hb d_Int_bitCount_40 rfl hl (by decide) rfl (fun ls hl => ?_)
  refine lv_iload_n hx hb d_Int_bitCount_41 rfl (lv_at hl 0 rfl) ?_
  refine lv_iload_n hx hb d_Int_bitCount_42 rfl (lv_at hl 0 rfl) ?_
  refine lv_bipush (v := (16 : Int32)) hx hb d_Int_bitCount_43 (by decide) ?_
  refine lv_iushr (v := ((v4.toUInt32 >>> ((16 : Int32).toUInt32 &&& Int32.toUInt32 31)).toInt32)) hx hb d_Int_bitCount_45 rfl ?_
  refine lv_iadd hx hb d_Int_bitCount_46 ?_
  refine lv_topi (fun v5 e_v5 => ?_)
  replace hF := xo_nm_u hF e_v5
  clear e_v5
  refine lv_istore_n (lv' := [(0, .int v5)]) hx hb d_Int_bitCount_47 rfl hl (by decide) rfl (fun ls hl => ?_)
  refine lv_iload_n hx hb d_Int_bitCount_48 rfl (lv_at hl 0 rfl) ?_
  refine lv_bipush (v := (63 : Int32)) hx hb d_Int_bitCount_49 (by decide) ?_
  refine lv_iand hx hb d_Int_bitCount_51 ?_
  have q9 := Option.some.inj hF
  subst q9
  exact hret 52 _ _ _ d_Int_bitCount_52 rfl hP hS
set_option maxHeartbeats 4000000 in
set_option maxRecDepth 100000 in
theorem c_Tow_hasPlot (l : Launch) (D : va_G) (cI cZ : ClassId) (ad : Nat → Nat) (A : Nat → Prop) (adK adV : Nat → Nat) (hDw : ∀ st : XS, va_D A (xw_C ad cI cZ st)) (x1 : Int32) (st : XS) (r9 : Int32) (hF : F_Tow_hasPlot x1 st = some r9) : K_I l D cI cZ A adK adV (xw_C ad cI cZ) y_Tow_hasPlot b_Tow_hasPlot 2 (some .boolean) 0 0 [.ref (ad 1), .int x1] st r9 st := by
  refine xk_startI (by decide) .boolean rfl (Nat.le_of_ble_eq_true rfl) ?_
  intro p e s m args below meth c Q ls hx hb hml hown hts hK hE hP hS hl hret
  replace hown : s.vm.findClass R_Tow = some m.cls := hown
  replace hl : lv_has ls 2 [(0, .ref (ad 1)), (1, .int x1)] := hl
  unfold F_Tow_hasPlot at hF
  refine lv_iload_n hx hb d_Tow_hasPlot_0 rfl (lv_at hl 1 rfl) ?_
  refine lv_if_lt (tgt := 16) hx hb d_Tow_hasPlot_1 (by decide) (fun c_98 => ?_) (fun c_98 => ?_)
  · replace hF := xo_if_t c_98 hF
    refine lv_iconst (v := (0 : Int32)) hx hb d_Tow_hasPlot_16 (by decide) ?_
    have q9 := Option.some.inj hF
    subst q9
    exact hret 17 _ _ _ d_Tow_hasPlot_17 rfl hP hS
  · replace hF := xo_if_f c_98 hF
    refine lv_iload_n hx hb d_Tow_hasPlot_4 rfl (lv_at hl 1 rfl) ?_
    refine lv_aload_n hx hb d_Tow_hasPlot_5 rfl (lv_at hl 0 rfl) ?_
    refine xk_get (C := R_Tow) (T := F_Tow) (N := 8) hx hb hts i_Tow hown hK hP 1 xw_C_at_1 rfl 7 (by decide) u_98 rfl d_Tow_hasPlot_6 ?_
    refine lv_icmp_ge (tgt := 16) hx hb d_Tow_hasPlot_9 (by decide) (fun c_99 => ?_) (fun c_99 => ?_)
    · replace hF := xo_if_t c_99 hF
      refine lv_iconst (v := (0 : Int32)) hx hb d_Tow_hasPlot_16 (by decide) ?_
      have q9 := Option.some.inj hF
      subst q9
      exact hret 17 _ _ _ d_Tow_hasPlot_17 rfl hP hS
    · replace hF := xo_if_f c_99 hF
      refine lv_iconst (v := (1 : Int32)) hx hb d_Tow_hasPlot_12 (by decide) ?_
      refine lv_goto (tgt := 17) hx hb d_Tow_hasPlot_13 (by decide) ?_
      have q9 := Option.some.inj hF
      subst q9
      exact hret 17 _ _ _ d_Tow_hasPlot_17 rfl hP hS
set_option maxHeartbeats 4000000 in
set_option maxRecDepth 100000 in
theorem c_Lng_bitCount (l : Launch) (D : va_G) (cI cZ : ClassId) (w : XS → va_W) (A : Nat → Prop) (adK adV : Nat → Nat) (x0 : Int64) (st : XS) (r9 : Int32) (hF : F_Lng_bitCount x0 = some r9) : K_I l D cI cZ A adK adV w y_Lng_bitCount b_Lng_bitCount 2 (some .int) 0 0 [.long x0] st r9 st := by
  refine xk_startI (by decide) .int rfl (Nat.le_of_ble_eq_true rfl) ?_
  intro p e s m args below meth c Q ls hx hb hml hown hts hK hE hP hS hl hret
  replace hown : s.vm.findClass R_Lng = some m.cls := hown
  replace hl : lv_has ls 2 [(0, .long x0)] := hl
  unfold F_Lng_bitCount at hF
  refine lv_lload_n hx hb d_Lng_bitCount_0 rfl (lv_at hl 0 rfl) ?_
  refine lv_lload_n hx hb d_Lng_bitCount_1 rfl (lv_at hl 0 rfl) ?_
  refine lv_iconst (v := (1 : Int32)) hx hb d_Lng_bitCount_2 (by decide) ?_
  refine lv_lushr (v := ((x0.toUInt64 >>> ((1 : Int32).toInt64.toUInt64 &&& Int64.toUInt64 63)).toInt64)) hx hb d_Lng_bitCount_3 rfl ?_
  refine lv_ldc2 (v := (6148914691236517205 : Int64)) hx hb hown (hts _ u_482) d_Lng_bitCount_4 ?_
  refine lv_land hx hb d_Lng_bitCount_7 ?_
  refine lv_lsub hx hb d_Lng_bitCount_8 ?_
  refine lv_topl (fun v1 e_v1 => ?_)
  replace hF := xo_nm_u hF e_v1
  clear e_v1
  refine lv_lstore_n (lv' := [(0, .long v1)]) hx hb d_Lng_bitCount_9 rfl hl (by decide) rfl (fun ls hl => ?_)
  refine lv_lload_n hx hb d_Lng_bitCount_10 rfl (lv_at hl 0 rfl) ?_
  refine lv_ldc2 (v := (3689348814741910323 : Int64)) hx hb hown (hts _ u_483) d_Lng_bitCount_11 ?_
  refine lv_land hx hb d_Lng_bitCount_14 ?_
  refine lv_lload_n hx hb d_Lng_bitCount_15 rfl (lv_at hl 0 rfl) ?_
  refine lv_iconst (v := (2 : Int32)) hx hb d_Lng_bitCount_16 (by decide) ?_
  refine lv_lushr (v := ((v1.toUInt64 >>> ((2 : Int32).toInt64.toUInt64 &&& Int64.toUInt64 63)).toInt64)) hx hb d_Lng_bitCount_17 rfl ?_
  refine lv_ldc2 (v := (3689348814741910323 : Int64)) hx hb hown (hts _ u_483) d_Lng_bitCount_18 ?_
  refine lv_land hx hb d_Lng_bitCount_21 ?_
  refine lv_ladd hx hb d_Lng_bitCount_22 ?_
  refine lv_topl (fun v2 e_v2 => ?_)
  replace hF := xo_nm_u hF e_v2
  clear e_v2
  refine lv_lstore_n (lv' := [(0, .long v2)]) hx hb d_Lng_bitCount_23 rfl hl (by decide) rfl (fun ls hl => ?_)
  refine lv_lload_n hx hb d_Lng_bitCount_24 rfl (lv_at hl 0 rfl) ?_
  refine lv_lload_n hx hb d_Lng_bitCount_25 rfl (lv_at hl 0 rfl) ?_
  refine lv_iconst (v := (4 : Int32)) hx hb d_Lng_bitCount_26 (by decide) ?_
  refine lv_lushr (v := ((v2.toUInt64 >>> ((4 : Int32).toInt64.toUInt64 &&& Int64.toUInt64 63)).toInt64)) hx hb d_Lng_bitCount_27 rfl ?_
  refine lv_ladd hx hb d_Lng_bitCount_28 ?_
  refine lv_ldc2 (v := (1085102592571150095 : Int64)) hx hb hown (hts _ u_484) d_Lng_bitCount_29 ?_
  refine lv_land hx hb d_Lng_bitCount_32 ?_
  refine lv_topl (fun v3 e_v3 => ?_)
  replace hF := xo_nm_u hF e_v3
  clear e_v3
  refine lv_lstore_n (lv' := [(0, .long v3)]) hx hb d_Lng_bitCount_33 rfl hl (by decide) rfl (fun ls hl => ?_)
  refine lv_lload_n hx hb d_Lng_bitCount_34 rfl (lv_at hl 0 rfl) ?_
  refine lv_lload_n hx hb d_Lng_bitCount_35 rfl (lv_at hl 0 rfl) ?_
  refine lv_bipush (v := (8 : Int32)) hx hb d_Lng_bitCount_36 (by decide) ?_
  refine lv_lushr (v := ((v3.toUInt64 >>> ((8 : Int32).toInt64.toUInt64 &&& Int64.toUInt64 63)).toInt64)) hx hb d_Lng_bitCount_38 rfl ?_
  refine lv_ladd hx hb d_Lng_bitCount_39 ?_
  refine lv_topl (fun v4 e_v4 => ?_)
  replace hF := xo_nm_u hF e_v4
  clear e_v4
  refine lv_lstore_n (lv' := [(0, .long v4)]) hx hb d_Lng_bitCount_40 rfl hl (by decide) rfl (fun ls hl => ?_)
  refine lv_lload_n hx hb d_Lng_bitCount_41 rfl (lv_at hl 0 rfl) ?_
  refine lv_lload_n hx hb d_Lng_bitCount_42 rfl (lv_at hl 0 rfl) ?_
  refine lv_bipush (v := (16 : Int32)) hx hb d_Lng_bitCount_43 (by decide) ?_
  refine lv_lushr (v := ((v4.toUInt64 >>> ((16 : Int32).toInt64.toUInt64 &&& Int64.toUInt64 63)).toInt64)) hx hb d_Lng_bitCount_45 rfl ?_
  refine lv_ladd hx hb d_Lng_bitCount_46 ?_
  refine lv_topl (fun v5 e_v5 => ?_)
  replace hF := xo_nm_u hF e_v5
  clear e_v5
  refine lv_lstore_n (lv' := [(0, .long v5)]) hx hb d_Lng_bitCount_47 rfl hl (by decide) rfl (fun ls hl => ?_)
  refine lv_lload_n hx hb d_Lng_bitCount_48 rfl (lv_at hl 0 rfl) ?_
  refine lv_lload_n hx hb d_Lng_bitCount_49 rfl (lv_at hl 0 rfl) ?_
  refine lv_bipush (v := (32 : Int32)) hx hb d_Lng_bitCount_50 (by decide) ?_
  refine lv_lushr (v := ((v5.toUInt64 >>> ((32 : Int32).toInt64.toUInt64 &&& Int64.toUInt64 63)).toInt64)) hx hb d_Lng_bitCount_52 rfl ?_
  refine lv_ladd hx hb d_Lng_bitCount_53 ?_
  refine lv_topl (fun v6 e_v6 => ?_)
  replace hF := xo_nm_u hF e_v6
  clear e_v6
  refine lv_lstore_n (lv' := [(0, .long v6)]) hx hb d_Lng_bitCount_54 rfl hl (by decide) rfl (fun ls hl => ?_)
  refine lv_lload_n hx hb d_Lng_bitCount_55 rfl (lv_at hl 0 rfl) ?_
  refine lv_l2i (v := (v6.toInt32)) hx hb d_Lng_bitCount_56 rfl ?_
  refine lv_bipush (v := (127 : Int32)) hx hb d_Lng_bitCount_57 (by decide) ?_
  refine lv_iand hx hb d_Lng_bitCount_59 ?_
  have q9 := Option.some.inj hF
  subst q9
  exact hret 60 _ _ _ d_Lng_bitCount_60 rfl hP hS
set_option maxHeartbeats 4000000 in
set_option maxRecDepth 100000 in
theorem c_Tow_hasDirection_v1 (l : Launch) (D : va_G) (cI cZ : ClassId) (ad : Nat → Nat) (A : Nat → Prop) (adK adV : Nat → Nat) (hDw : ∀ st : XS, va_D A (xw_C ad cI cZ st)) (x1 : Int32) (x2 : Int32) (st : XS) (r9 : Int32) (hF : F_Tow_hasDirection_v1 x1 x2 st = some r9) : K_I l D cI cZ A adK adV (xw_C ad cI cZ) y_Tow_hasDirection b_Tow_hasDirection 4 (some .boolean) 1 23 [.ref (ad 1), .int x1, .int x2] st r9 st := by
  refine xk_startI (by decide) .boolean rfl (Nat.le_of_ble_eq_true rfl) ?_
  intro p e s m args below meth c Q ls hx hb hml hown hts hK hE hP hS hl hret
  replace hown : s.vm.findClass R_Tow = some m.cls := hown
  replace hl : lv_has ls 4 [(0, .ref (ad 1)), (1, .int x1), (2, .int x2)] := hl
  unfold F_Tow_hasDirection_v1 at hF
  refine lv_iconst (v := (0 : Int32)) hx hb d_Tow_hasDirection_0 (by decide) ?_
  refine lv_istore_n (lv' := [(3, .int (0 : Int32)), (0, .ref (ad 1)), (1, .int x1), (2, .int x2)]) hx hb d_Tow_hasDirection_1 rfl hl (by decide) rfl (fun ls hl => ?_)
  have lp2 : ∀ (n : Nat) (w2_3 : Int32) (y : (Unit ⊕ Unit)), xo_lp (fun q : Int32 => F_Tow_hasDirection_v1_b2 x1 x2 st q) n w2_3 = some y → ((.inl ()) = y → ∀ (H : Heap) (locs : List Loc) (ls : Array Slot), va_P D classes (xw_C ad cI cZ st) H → va_S A s.heap H locs → lv_has ls 4 [] → W p l e (xk_rm 1 23) s m args below meth c H locs 0 0 Q (F0 m 20 ls [])) → ((.inr ()) = y → ∀ (H : Heap) (locs : List Loc) (ls : Array Slot), va_P D classes (xw_C ad cI cZ st) H → va_S A s.heap H locs → lv_has ls 4 [] → W p l e (xk_rm 1 23) s m args below meth c H locs 0 0 Q (F0 m 28 ls [])) → ∀ (H : Heap) (locs : List Loc) (ls : Array Slot), va_P D classes (xw_C ad cI cZ st) H → va_S A s.heap H locs → lv_has ls 4 [(0, .ref (ad 1)), (1, .int x1), (2, .int x2), (3, .int w2_3)] → W p l e (xk_rm 1 23) s m args below meth c H locs 0 0 Q (F0 m 2 ls []) := by
    intro n
    induction n with
    | zero =>
      intro w2_3 y hL
      exact nomatch (show (none : Option _) = some y from hL)
    | succ n ih =>
      intro w2_3 y hL kx0 kx1 H locs ls hP hS hl
      obtain ⟨z9, hB, hL⟩ := xo_lp_s hL
      replace hB : F_Tow_hasDirection_v1_b2 x1 x2 st w2_3 = some z9 := hB
      unfold F_Tow_hasDirection_v1_b2 at hB
      refine lv_iload_n hx hb d_Tow_hasDirection_2 rfl (lv_at hl 3 rfl) ?_
      refine lv_aload_n hx hb d_Tow_hasDirection_3 rfl (lv_at hl 0 rfl) ?_
      refine xk_get (C := R_Tow) (T := F_Tow) (N := 8) hx hb hts i_Tow hown hK hP 1 xw_C_at_1 rfl 4 (by decide) u_89 rfl d_Tow_hasDirection_4 ?_
      refine lv_icmp_ge (tgt := 28) hx hb d_Tow_hasDirection_7 (by decide) (fun c_158 => ?_) (fun c_158 => ?_)
      · replace hB := xo_if_t c_158 hB
        have q9 := Option.some.inj hB
        subst q9
        replace hL := Option.some.inj (xo_elR hL)
        subst hL
        exact kx1  rfl _ _ _ hP hS (lv_sub hl [] rfl)
      · replace hB := xo_if_f c_158 hB
        refine lv_aload_n hx hb d_Tow_hasDirection_10 rfl (lv_at hl 0 rfl) ?_
        refine lv_iload_n hx hb d_Tow_hasDirection_11 rfl (lv_at hl 1 rfl) ?_
        refine lv_iload_n hx hb d_Tow_hasDirection_12 rfl (lv_at hl 2 rfl) ?_
        refine lv_iload_n hx hb d_Tow_hasDirection_13 rfl (lv_at hl 3 rfl) ?_
        obtain ⟨v1, h_v1, hB⟩ := xo_ob hB
        refine xk_goI (xk_runV (As := [.int x1, .int x2, .int w2_3]) (rest := []) hx hb hml hown hts hK hE (fun _ h => h) hP hS ok_Tow_turn in_Tow_turn u_191 (c_Tow_turn l D cI cZ ad A adK adV hDw x1 x2 w2_3 st v1 h_v1) (va_recv hK hP (ci := 2) (q0 := 1) rfl xw_C_at_1) (by decide) rfl hl.1 rfl (Nat.le_of_ble_eq_true rfl) d_Tow_hasDirection_14 ⟨Nat.le_refl _, Nat.le_refl _⟩) (fun _ h => h) hS (fun H locs hP hS => ?_)
        refine lv_if_ne (tgt := 22) hx hb d_Tow_hasDirection_17 (by decide) (fun c_159 => ?_) (fun c_159 => ?_)
        · replace hB := xo_if_f c_159 hB
          obtain ⟨v2, e_v2, hB⟩ := xo_nm_e hB
          refine lv_iinc (v := v2) (lv' := [(3, .int v2), (0, .ref (ad 1)), (1, .int x1), (2, .int x2)]) hx hb d_Tow_hasDirection_22 hl (k := 3) rfl (by rw [e_v2]; rfl) (by decide) rfl (fun ls hl => ?_)
          clear e_v2
          refine lv_goto (tgt := 2) hx hb d_Tow_hasDirection_25 (by decide) ?_
          have q9 := Option.some.inj hB
          subst q9
          exact ih _ _ (xo_elL hL) kx0 kx1 _ _ _ hP hS (lv_sub hl [1, 2, 3, 0] rfl)
        · replace hB := xo_if_t c_159 hB
          have q9 := Option.some.inj hB
          subst q9
          replace hL := Option.some.inj (xo_elR hL)
          subst hL
          exact kx0  rfl _ _ _ hP hS (lv_sub hl [] rfl)
  obtain ⟨y2, hL2, hF⟩ := xo_ob hF
  refine lp2 1000000 (0 : Int32) y2 hL2 ?_ ?_ _ _ _ hP hS (lv_sub hl [1, 2, 3, 0] rfl)
  · intro  ey H locs ls hP hS hl
    subst ey
    replace hF := xo_elL hF
    refine lv_iconst (v := (1 : Int32)) hx hb d_Tow_hasDirection_20 (by decide) ?_
    have q9 := Option.some.inj hF
    subst q9
    exact hret 21 _ _ _ d_Tow_hasDirection_21 rfl hP hS
  · intro  ey H locs ls hP hS hl
    subst ey
    replace hF := xo_elR hF
    refine lv_iconst (v := (0 : Int32)) hx hb d_Tow_hasDirection_28 (by decide) ?_
    have q9 := Option.some.inj hF
    subst q9
    exact hret 29 _ _ _ d_Tow_hasDirection_29 rfl hP hS
set_option maxHeartbeats 4000000 in
set_option maxRecDepth 100000 in
theorem c_Tow_hasPlotOn (l : Launch) (D : va_G) (cI cZ : ClassId) (ad : Nat → Nat) (A : Nat → Prop) (adK adV : Nat → Nat) (hDw : ∀ st : XS, va_D A (xw_C ad cI cZ st)) (x1 : Int32) (x2 : Int32) (x3 : Int32) (st : XS) (r9 : Int32) (hF : F_Tow_hasPlotOn x1 x2 x3 st = some r9) : K_I l D cI cZ A adK adV (xw_C ad cI cZ) y_Tow_hasPlotOn b_Tow_hasPlotOn 5 (some .boolean) 0 0 [.ref (ad 1), .int x1, .int x2, .int x3] st r9 st := by
  refine xk_startI (by decide) .boolean rfl (Nat.le_of_ble_eq_true rfl) ?_
  intro p e s m args below meth c Q ls hx hb hml hown hts hK hE hP hS hl hret
  replace hown : s.vm.findClass R_Tow = some m.cls := hown
  replace hl : lv_has ls 5 [(0, .ref (ad 1)), (1, .int x1), (2, .int x2), (3, .int x3)] := hl
  unfold F_Tow_hasPlotOn at hF
  refine lv_iconst (v := (0 : Int32)) hx hb d_Tow_hasPlotOn_0 (by decide) ?_
  refine lv_istore (lv' := [(4, .int (0 : Int32)), (0, .ref (ad 1)), (1, .int x1), (2, .int x2), (3, .int x3)]) hx hb d_Tow_hasPlotOn_1 hl (by decide) rfl (fun ls hl => ?_)
  have lp3 : ∀ (n : Nat) (w3_4 : Int32) (y : (Unit ⊕ Unit)), xo_lp (fun q : Int32 => F_Tow_hasPlotOn_b3 x1 x2 x3 st q) n w3_4 = some y → ((.inl ()) = y → ∀ (H : Heap) (locs : List Loc) (ls : Array Slot), va_P D classes (xw_C ad cI cZ st) H → va_S A s.heap H locs → lv_has ls 5 [] → W p l e (xk_rm 0 0) s m args below meth c H locs 0 0 Q (F0 m 35 ls [])) → ((.inr ()) = y → ∀ (H : Heap) (locs : List Loc) (ls : Array Slot), va_P D classes (xw_C ad cI cZ st) H → va_S A s.heap H locs → lv_has ls 5 [] → W p l e (xk_rm 0 0) s m args below meth c H locs 0 0 Q (F0 m 43 ls [])) → ∀ (H : Heap) (locs : List Loc) (ls : Array Slot), va_P D classes (xw_C ad cI cZ st) H → va_S A s.heap H locs → lv_has ls 5 [(0, .ref (ad 1)), (1, .int x1), (2, .int x2), (3, .int x3), (4, .int w3_4)] → W p l e (xk_rm 0 0) s m args below meth c H locs 0 0 Q (F0 m 3 ls []) := by
    intro n
    induction n with
    | zero =>
      intro w3_4 y hL
      exact nomatch (show (none : Option _) = some y from hL)
    | succ n ih =>
      intro w3_4 y hL kx0 kx1 H locs ls hP hS hl
      obtain ⟨z9, hB, hL⟩ := xo_lp_s hL
      replace hB : F_Tow_hasPlotOn_b3 x1 x2 x3 st w3_4 = some z9 := hB
      unfold F_Tow_hasPlotOn_b3 at hB
      refine lv_iload hx hb d_Tow_hasPlotOn_3 (lv_at hl 4 rfl) ?_
      refine lv_aload_n hx hb d_Tow_hasPlotOn_5 rfl (lv_at hl 0 rfl) ?_
      refine xk_get (C := R_Tow) (T := F_Tow) (N := 8) hx hb hts i_Tow hown hK hP 1 xw_C_at_1 rfl 7 (by decide) u_98 rfl d_Tow_hasPlotOn_6 ?_
      refine lv_icmp_ge (tgt := 43) hx hb d_Tow_hasPlotOn_9 (by decide) (fun c_172 => ?_) (fun c_172 => ?_)
      · replace hB := xo_if_t c_172 hB
        have q9 := Option.some.inj hB
        subst q9
        replace hL := Option.some.inj (xo_elR hL)
        subst hL
        exact kx1  rfl _ _ _ hP hS (lv_sub hl [] rfl)
      · replace hB := xo_if_f c_172 hB
        refine lv_iload_n hx hb d_Tow_hasPlotOn_12 rfl (lv_at hl 1 rfl) ?_
        refine lv_aload_n hx hb d_Tow_hasPlotOn_13 rfl (lv_at hl 0 rfl) ?_
        refine xk_get (C := R_Tow) (T := F_Tow) (N := 8) hx hb hts i_Tow hown hK hP 1 xw_C_at_1 rfl 5 (by decide) u_92 rfl d_Tow_hasPlotOn_14 ?_
        refine lv_iload hx hb d_Tow_hasPlotOn_17 (lv_at hl 4 rfl) ?_
        obtain ⟨v1, h_v1, hB⟩ := xo_ob hB
        refine xk_iald hx hb hK hP 6 xw_C_at_6 h_v1 d_Tow_hasPlotOn_19 ?_
        refine lv_imul hx hb d_Tow_hasPlotOn_20 ?_
        refine lv_iload_n hx hb d_Tow_hasPlotOn_21 rfl (lv_at hl 2 rfl) ?_
        refine lv_aload_n hx hb d_Tow_hasPlotOn_22 rfl (lv_at hl 0 rfl) ?_
        refine xk_get (C := R_Tow) (T := F_Tow) (N := 8) hx hb hts i_Tow hown hK hP 1 xw_C_at_1 rfl 6 (by decide) u_95 rfl d_Tow_hasPlotOn_23 ?_
        refine lv_iload hx hb d_Tow_hasPlotOn_26 (lv_at hl 4 rfl) ?_
        obtain ⟨v2, h_v2, hB⟩ := xo_ob hB
        refine xk_iald hx hb hK hP 7 xw_C_at_7 h_v2 d_Tow_hasPlotOn_28 ?_
        refine lv_imul hx hb d_Tow_hasPlotOn_29 ?_
        refine lv_iadd hx hb d_Tow_hasPlotOn_30 ?_
        refine lv_iload_n hx hb d_Tow_hasPlotOn_31 rfl (lv_at hl 3 rfl) ?_
        refine lv_icmp_ne (tgt := 37) hx hb d_Tow_hasPlotOn_32 (by decide) (fun c_173 => ?_) (fun c_173 => ?_)
        · replace hB := xo_if_f c_173 hB
          obtain ⟨v3, e_v3, hB⟩ := xo_nm_e hB
          refine lv_iinc (v := v3) (lv' := [(4, .int v3), (0, .ref (ad 1)), (1, .int x1), (2, .int x2), (3, .int x3)]) hx hb d_Tow_hasPlotOn_37 hl (k := 4) rfl (by rw [e_v3]; rfl) (by decide) rfl (fun ls hl => ?_)
          clear e_v3
          refine lv_goto (tgt := 3) hx hb d_Tow_hasPlotOn_40 (by decide) ?_
          have q9 := Option.some.inj hB
          subst q9
          exact ih _ _ (xo_elL hL) kx0 kx1 _ _ _ hP hS (lv_sub hl [1, 2, 3, 4, 0] rfl)
        · replace hB := xo_if_t c_173 hB
          have q9 := Option.some.inj hB
          subst q9
          replace hL := Option.some.inj (xo_elR hL)
          subst hL
          exact kx0  rfl _ _ _ hP hS (lv_sub hl [] rfl)
  obtain ⟨y3, hL3, hF⟩ := xo_ob hF
  refine lp3 1000000 (0 : Int32) y3 hL3 ?_ ?_ _ _ _ hP hS (lv_sub hl [1, 2, 3, 4, 0] rfl)
  · intro  ey H locs ls hP hS hl
    subst ey
    replace hF := xo_elL hF
    refine lv_iconst (v := (1 : Int32)) hx hb d_Tow_hasPlotOn_35 (by decide) ?_
    have q9 := Option.some.inj hF
    subst q9
    exact hret 36 _ _ _ d_Tow_hasPlotOn_36 rfl hP hS
  · intro  ey H locs ls hP hS hl
    subst ey
    replace hF := xo_elR hF
    refine lv_iconst (v := (0 : Int32)) hx hb d_Tow_hasPlotOn_43 (by decide) ?_
    have q9 := Option.some.inj hF
    subst q9
    exact hret 44 _ _ _ d_Tow_hasPlotOn_44 rfl hP hS
set_option maxHeartbeats 4000000 in
set_option maxRecDepth 100000 in
theorem c_Tow_copyFrom_v2 (l : Launch) (D : va_G) (cI cZ : ClassId) (ad : Nat → Nat) (A : Nat → Prop) (adK adV : Nat → Nat) (hDw : ∀ st : XS, va_D A (xw_C ad cI cZ st)) (st : XS) (st9 : XS) (hF : F_Tow_copyFrom_v2  st = some st9) : K_V l D cI cZ A adK adV (xw_C ad cI cZ) y_Tow_copyFrom b_Tow_copyFrom 2 none 1 60 [.ref (ad 15), .ref (ad 1)] st st9 := by
  refine xk_startV (by decide) rfl (Nat.le_of_ble_eq_true rfl) ?_
  intro p e s m args below meth c Q ls hx hb hml hown hts hK hE hP hS hl hret
  replace hown : s.vm.findClass R_Tow = some m.cls := hown
  replace hl : lv_has ls 2 [(0, .ref (ad 15)), (1, .ref (ad 1))] := hl
  unfold F_Tow_copyFrom_v2 at hF
  refine lv_aload_n hx hb d_Tow_copyFrom_0 rfl (lv_at hl 1 rfl) ?_
  refine xk_get (C := R_Tow) (T := F_Tow) (N := 8) hx hb hts i_Tow hown hK hP 1 xw_C_at_1 rfl 0 (by decide) u_77 rfl d_Tow_copyFrom_1 ?_
  refine lv_iconst (v := (0 : Int32)) hx hb d_Tow_copyFrom_4 (by decide) ?_
  refine lv_aload_n hx hb d_Tow_copyFrom_5 rfl (lv_at hl 0 rfl) ?_
  refine xk_get (C := R_Tow) (T := F_Tow) (N := 8) hx hb hts i_Tow hown hK hP 15 xw_C_at_15 rfl 0 (by decide) u_77 rfl d_Tow_copyFrom_6 ?_
  refine lv_iconst (v := (0 : Int32)) hx hb d_Tow_copyFrom_9 (by decide) ?_
  refine lv_bipush (v := (6 : Int32)) hx hb d_Tow_copyFrom_10 (by decide) ?_
  obtain ⟨t1, e_t1, hF⟩ := xo_nm_e hF
  refine va_copyi hx hb (by rw [hml]; exact hl.1.symm) hown (hts _ u_mcopy_s287) (hts _ u_na_copy) (hts _ u_st_copy) (hts _ u_in_Sys) hK hP (hDw _) hS 2 16 0 0 xw_C_at_2 xw_C_at_16 rfl rfl rfl (by decide) (by decide) (by decide) (by decide) (by decide) (fun i _ => rfl) (by decide) (Nat.le_of_ble_eq_true rfl) d_Tow_copyFrom_12 (fun H locs hP _ hS => ?_)
  rw [xw_C_set_16] at hP
  replace hP : va_P D classes (xw_C ad cI cZ t1) H := by rw [e_t1]; exact hP
  clear e_t1
  refine lv_aload_n hx hb d_Tow_copyFrom_15 rfl (lv_at hl 1 rfl) ?_
  refine xk_get (C := R_Tow) (T := F_Tow) (N := 8) hx hb hts i_Tow hown hK hP 1 xw_C_at_1 rfl 1 (by decide) u_80 rfl d_Tow_copyFrom_16 ?_
  refine lv_iconst (v := (0 : Int32)) hx hb d_Tow_copyFrom_19 (by decide) ?_
  refine lv_aload_n hx hb d_Tow_copyFrom_20 rfl (lv_at hl 0 rfl) ?_
  refine xk_get (C := R_Tow) (T := F_Tow) (N := 8) hx hb hts i_Tow hown hK hP 15 xw_C_at_15 rfl 1 (by decide) u_80 rfl d_Tow_copyFrom_21 ?_
  refine lv_iconst (v := (0 : Int32)) hx hb d_Tow_copyFrom_24 (by decide) ?_
  refine lv_bipush (v := (6 : Int32)) hx hb d_Tow_copyFrom_25 (by decide) ?_
  obtain ⟨t2, e_t2, hF⟩ := xo_nm_e hF
  refine va_copyi hx hb (by rw [hml]; exact hl.1.symm) hown (hts _ u_mcopy_s287) (hts _ u_na_copy) (hts _ u_st_copy) (hts _ u_in_Sys) hK hP (hDw _) hS 3 17 0 0 xw_C_at_3 xw_C_at_17 rfl rfl rfl (by decide) (by decide) (by decide) (by decide) (by decide) (fun i _ => rfl) (by decide) (Nat.le_of_ble_eq_true rfl) d_Tow_copyFrom_27 (fun H locs hP _ hS => ?_)
  rw [xw_C_set_17] at hP
  replace hP : va_P D classes (xw_C ad cI cZ t2) H := by rw [e_t2]; exact hP
  clear e_t2
  refine lv_aload_n hx hb d_Tow_copyFrom_30 rfl (lv_at hl 1 rfl) ?_
  refine xk_get (C := R_Tow) (T := F_Tow) (N := 8) hx hb hts i_Tow hown hK hP 1 xw_C_at_1 rfl 2 (by decide) u_83 rfl d_Tow_copyFrom_31 ?_
  refine lv_iconst (v := (0 : Int32)) hx hb d_Tow_copyFrom_34 (by decide) ?_
  refine lv_aload_n hx hb d_Tow_copyFrom_35 rfl (lv_at hl 0 rfl) ?_
  refine xk_get (C := R_Tow) (T := F_Tow) (N := 8) hx hb hts i_Tow hown hK hP 15 xw_C_at_15 rfl 2 (by decide) u_83 rfl d_Tow_copyFrom_36 ?_
  refine lv_iconst (v := (0 : Int32)) hx hb d_Tow_copyFrom_39 (by decide) ?_
  refine lv_bipush (v := (6 : Int32)) hx hb d_Tow_copyFrom_40 (by decide) ?_
  obtain ⟨t3, e_t3, hF⟩ := xo_nm_e hF
  refine va_copyi hx hb (by rw [hml]; exact hl.1.symm) hown (hts _ u_mcopy_s287) (hts _ u_na_copy) (hts _ u_st_copy) (hts _ u_in_Sys) hK hP (hDw _) hS 4 18 0 0 xw_C_at_4 xw_C_at_18 rfl rfl rfl (by decide) (by decide) (by decide) (by decide) (by decide) (fun i _ => rfl) (by decide) (Nat.le_of_ble_eq_true rfl) d_Tow_copyFrom_42 (fun H locs hP _ hS => ?_)
  rw [xw_C_set_18] at hP
  replace hP : va_P D classes (xw_C ad cI cZ t3) H := by rw [e_t3]; exact hP
  clear e_t3
  refine lv_aload_n hx hb d_Tow_copyFrom_45 rfl (lv_at hl 1 rfl) ?_
  refine xk_get (C := R_Tow) (T := F_Tow) (N := 8) hx hb hts i_Tow hown hK hP 1 xw_C_at_1 rfl 3 (by decide) u_86 rfl d_Tow_copyFrom_46 ?_
  refine lv_iconst (v := (0 : Int32)) hx hb d_Tow_copyFrom_49 (by decide) ?_
  refine lv_aload_n hx hb d_Tow_copyFrom_50 rfl (lv_at hl 0 rfl) ?_
  refine xk_get (C := R_Tow) (T := F_Tow) (N := 8) hx hb hts i_Tow hown hK hP 15 xw_C_at_15 rfl 3 (by decide) u_86 rfl d_Tow_copyFrom_51 ?_
  refine lv_iconst (v := (0 : Int32)) hx hb d_Tow_copyFrom_54 (by decide) ?_
  refine lv_bipush (v := (6 : Int32)) hx hb d_Tow_copyFrom_55 (by decide) ?_
  obtain ⟨t4, e_t4, hF⟩ := xo_nm_e hF
  refine va_copyi hx hb (by rw [hml]; exact hl.1.symm) hown (hts _ u_mcopy_s287) (hts _ u_na_copy) (hts _ u_st_copy) (hts _ u_in_Sys) hK hP (hDw _) hS 5 19 0 0 xw_C_at_5 xw_C_at_19 rfl rfl rfl (by decide) (by decide) (by decide) (by decide) (by decide) (fun i _ => rfl) (by decide) (Nat.le_of_ble_eq_true rfl) d_Tow_copyFrom_57 (fun H locs hP _ hS => ?_)
  rw [xw_C_set_19] at hP
  replace hP : va_P D classes (xw_C ad cI cZ t4) H := by rw [e_t4]; exact hP
  clear e_t4
  refine lv_aload_n hx hb d_Tow_copyFrom_60 rfl (lv_at hl 0 rfl) ?_
  refine lv_aload_n hx hb d_Tow_copyFrom_61 rfl (lv_at hl 1 rfl) ?_
  refine xk_get (C := R_Tow) (T := F_Tow) (N := 8) hx hb hts i_Tow hown hK hP 1 xw_C_at_1 rfl 4 (by decide) u_89 rfl d_Tow_copyFrom_62 ?_
  obtain ⟨t5, e_t5, hF⟩ := xo_nm_e hF
  refine xk_put (C := R_Tow) (T := F_Tow) (N := 8) (ty := .int) hx hb hts i_Tow t_Tow t_Tow_ok n_Tow hown hK hP (hDw _) hS 15 xw_C_at_15 rfl 4 (by decide) u_89 rfl (by decide +kernel) rfl rfl (Nat.le_of_ble_eq_true rfl) (xw_C_put_15_4 _) d_Tow_copyFrom_65 (fun H locs hP hS => ?_)
  replace hP : va_P D classes (xw_C ad cI cZ t5) H := by rw [e_t5]; exact hP
  clear e_t5
  refine lv_aload_n hx hb d_Tow_copyFrom_68 rfl (lv_at hl 1 rfl) ?_
  refine xk_get (C := R_Tow) (T := F_Tow) (N := 8) hx hb hts i_Tow hown hK hP 1 xw_C_at_1 rfl 5 (by decide) u_92 rfl d_Tow_copyFrom_69 ?_
  refine lv_iconst (v := (0 : Int32)) hx hb d_Tow_copyFrom_72 (by decide) ?_
  refine lv_aload_n hx hb d_Tow_copyFrom_73 rfl (lv_at hl 0 rfl) ?_
  refine xk_get (C := R_Tow) (T := F_Tow) (N := 8) hx hb hts i_Tow hown hK hP 15 xw_C_at_15 rfl 5 (by decide) u_92 rfl d_Tow_copyFrom_74 ?_
  refine lv_iconst (v := (0 : Int32)) hx hb d_Tow_copyFrom_77 (by decide) ?_
  refine lv_bipush (v := (8 : Int32)) hx hb d_Tow_copyFrom_78 (by decide) ?_
  obtain ⟨t6, e_t6, hF⟩ := xo_nm_e hF
  refine va_copyi hx hb (by rw [hml]; exact hl.1.symm) hown (hts _ u_mcopy_s287) (hts _ u_na_copy) (hts _ u_st_copy) (hts _ u_in_Sys) hK hP (hDw _) hS 6 20 0 0 xw_C_at_6 xw_C_at_20 rfl rfl rfl (by decide) (by decide) (by decide) (by decide) (by decide) (fun i _ => rfl) (by decide) (Nat.le_of_ble_eq_true rfl) d_Tow_copyFrom_80 (fun H locs hP _ hS => ?_)
  rw [xw_C_set_20] at hP
  replace hP : va_P D classes (xw_C ad cI cZ t6) H := by rw [e_t6]; exact hP
  clear e_t6
  refine lv_aload_n hx hb d_Tow_copyFrom_83 rfl (lv_at hl 1 rfl) ?_
  refine xk_get (C := R_Tow) (T := F_Tow) (N := 8) hx hb hts i_Tow hown hK hP 1 xw_C_at_1 rfl 6 (by decide) u_95 rfl d_Tow_copyFrom_84 ?_
  refine lv_iconst (v := (0 : Int32)) hx hb d_Tow_copyFrom_87 (by decide) ?_
  refine lv_aload_n hx hb d_Tow_copyFrom_88 rfl (lv_at hl 0 rfl) ?_
  refine xk_get (C := R_Tow) (T := F_Tow) (N := 8) hx hb hts i_Tow hown hK hP 15 xw_C_at_15 rfl 6 (by decide) u_95 rfl d_Tow_copyFrom_89 ?_
  refine lv_iconst (v := (0 : Int32)) hx hb d_Tow_copyFrom_92 (by decide) ?_
  refine lv_bipush (v := (8 : Int32)) hx hb d_Tow_copyFrom_93 (by decide) ?_
  obtain ⟨t7, e_t7, hF⟩ := xo_nm_e hF
  refine va_copyi hx hb (by rw [hml]; exact hl.1.symm) hown (hts _ u_mcopy_s287) (hts _ u_na_copy) (hts _ u_st_copy) (hts _ u_in_Sys) hK hP (hDw _) hS 7 21 0 0 xw_C_at_7 xw_C_at_21 rfl rfl rfl (by decide) (by decide) (by decide) (by decide) (by decide) (fun i _ => rfl) (by decide) (Nat.le_of_ble_eq_true rfl) d_Tow_copyFrom_95 (fun H locs hP _ hS => ?_)
  rw [xw_C_set_21] at hP
  replace hP : va_P D classes (xw_C ad cI cZ t7) H := by rw [e_t7]; exact hP
  clear e_t7
  refine lv_aload_n hx hb d_Tow_copyFrom_98 rfl (lv_at hl 0 rfl) ?_
  refine lv_aload_n hx hb d_Tow_copyFrom_99 rfl (lv_at hl 1 rfl) ?_
  refine xk_get (C := R_Tow) (T := F_Tow) (N := 8) hx hb hts i_Tow hown hK hP 1 xw_C_at_1 rfl 7 (by decide) u_98 rfl d_Tow_copyFrom_100 ?_
  obtain ⟨t8, e_t8, hF⟩ := xo_nm_e hF
  refine xk_put (C := R_Tow) (T := F_Tow) (N := 8) (ty := .int) hx hb hts i_Tow t_Tow t_Tow_ok n_Tow hown hK hP (hDw _) hS 15 xw_C_at_15 rfl 7 (by decide) u_98 rfl (by decide +kernel) rfl rfl (Nat.le_of_ble_eq_true rfl) (xw_C_put_15_7 _) d_Tow_copyFrom_103 (fun H locs hP hS => ?_)
  replace hP : va_P D classes (xw_C ad cI cZ t8) H := by rw [e_t8]; exact hP
  clear e_t8
  have q9 := Option.some.inj hF
  subst q9
  exact hret 106 _ _ _ d_Tow_copyFrom_106 hP hS
set_option maxHeartbeats 4000000 in
set_option maxRecDepth 100000 in
theorem c_Tow_copyFrom_v3 (l : Launch) (D : va_G) (cI cZ : ClassId) (ad : Nat → Nat) (A : Nat → Prop) (adK adV : Nat → Nat) (hDw : ∀ st : XS, va_D A (xw_C ad cI cZ st)) (st : XS) (st9 : XS) (hF : F_Tow_copyFrom_v3  st = some st9) : K_V l D cI cZ A adK adV (xw_C ad cI cZ) y_Tow_copyFrom b_Tow_copyFrom 2 none 1 60 [.ref (ad 1), .ref (ad 15)] st st9 := by
  refine xk_startV (by decide) rfl (Nat.le_of_ble_eq_true rfl) ?_
  intro p e s m args below meth c Q ls hx hb hml hown hts hK hE hP hS hl hret
  replace hown : s.vm.findClass R_Tow = some m.cls := hown
  replace hl : lv_has ls 2 [(0, .ref (ad 1)), (1, .ref (ad 15))] := hl
  unfold F_Tow_copyFrom_v3 at hF
  refine lv_aload_n hx hb d_Tow_copyFrom_0 rfl (lv_at hl 1 rfl) ?_
  refine xk_get (C := R_Tow) (T := F_Tow) (N := 8) hx hb hts i_Tow hown hK hP 15 xw_C_at_15 rfl 0 (by decide) u_77 rfl d_Tow_copyFrom_1 ?_
  refine lv_iconst (v := (0 : Int32)) hx hb d_Tow_copyFrom_4 (by decide) ?_
  refine lv_aload_n hx hb d_Tow_copyFrom_5 rfl (lv_at hl 0 rfl) ?_
  refine xk_get (C := R_Tow) (T := F_Tow) (N := 8) hx hb hts i_Tow hown hK hP 1 xw_C_at_1 rfl 0 (by decide) u_77 rfl d_Tow_copyFrom_6 ?_
  refine lv_iconst (v := (0 : Int32)) hx hb d_Tow_copyFrom_9 (by decide) ?_
  refine lv_bipush (v := (6 : Int32)) hx hb d_Tow_copyFrom_10 (by decide) ?_
  obtain ⟨t1, e_t1, hF⟩ := xo_nm_e hF
  refine va_copyi hx hb (by rw [hml]; exact hl.1.symm) hown (hts _ u_mcopy_s287) (hts _ u_na_copy) (hts _ u_st_copy) (hts _ u_in_Sys) hK hP (hDw _) hS 16 2 0 0 xw_C_at_16 xw_C_at_2 rfl rfl rfl (by decide) (by decide) (by decide) (by decide) (by decide) (fun i _ => rfl) (by decide) (Nat.le_of_ble_eq_true rfl) d_Tow_copyFrom_12 (fun H locs hP _ hS => ?_)
  rw [xw_C_set_2] at hP
  replace hP : va_P D classes (xw_C ad cI cZ t1) H := by rw [e_t1]; exact hP
  clear e_t1
  refine lv_aload_n hx hb d_Tow_copyFrom_15 rfl (lv_at hl 1 rfl) ?_
  refine xk_get (C := R_Tow) (T := F_Tow) (N := 8) hx hb hts i_Tow hown hK hP 15 xw_C_at_15 rfl 1 (by decide) u_80 rfl d_Tow_copyFrom_16 ?_
  refine lv_iconst (v := (0 : Int32)) hx hb d_Tow_copyFrom_19 (by decide) ?_
  refine lv_aload_n hx hb d_Tow_copyFrom_20 rfl (lv_at hl 0 rfl) ?_
  refine xk_get (C := R_Tow) (T := F_Tow) (N := 8) hx hb hts i_Tow hown hK hP 1 xw_C_at_1 rfl 1 (by decide) u_80 rfl d_Tow_copyFrom_21 ?_
  refine lv_iconst (v := (0 : Int32)) hx hb d_Tow_copyFrom_24 (by decide) ?_
  refine lv_bipush (v := (6 : Int32)) hx hb d_Tow_copyFrom_25 (by decide) ?_
  obtain ⟨t2, e_t2, hF⟩ := xo_nm_e hF
  refine va_copyi hx hb (by rw [hml]; exact hl.1.symm) hown (hts _ u_mcopy_s287) (hts _ u_na_copy) (hts _ u_st_copy) (hts _ u_in_Sys) hK hP (hDw _) hS 17 3 0 0 xw_C_at_17 xw_C_at_3 rfl rfl rfl (by decide) (by decide) (by decide) (by decide) (by decide) (fun i _ => rfl) (by decide) (Nat.le_of_ble_eq_true rfl) d_Tow_copyFrom_27 (fun H locs hP _ hS => ?_)
  rw [xw_C_set_3] at hP
  replace hP : va_P D classes (xw_C ad cI cZ t2) H := by rw [e_t2]; exact hP
  clear e_t2
  refine lv_aload_n hx hb d_Tow_copyFrom_30 rfl (lv_at hl 1 rfl) ?_
  refine xk_get (C := R_Tow) (T := F_Tow) (N := 8) hx hb hts i_Tow hown hK hP 15 xw_C_at_15 rfl 2 (by decide) u_83 rfl d_Tow_copyFrom_31 ?_
  refine lv_iconst (v := (0 : Int32)) hx hb d_Tow_copyFrom_34 (by decide) ?_
  refine lv_aload_n hx hb d_Tow_copyFrom_35 rfl (lv_at hl 0 rfl) ?_
  refine xk_get (C := R_Tow) (T := F_Tow) (N := 8) hx hb hts i_Tow hown hK hP 1 xw_C_at_1 rfl 2 (by decide) u_83 rfl d_Tow_copyFrom_36 ?_
  refine lv_iconst (v := (0 : Int32)) hx hb d_Tow_copyFrom_39 (by decide) ?_
  refine lv_bipush (v := (6 : Int32)) hx hb d_Tow_copyFrom_40 (by decide) ?_
  obtain ⟨t3, e_t3, hF⟩ := xo_nm_e hF
  refine va_copyi hx hb (by rw [hml]; exact hl.1.symm) hown (hts _ u_mcopy_s287) (hts _ u_na_copy) (hts _ u_st_copy) (hts _ u_in_Sys) hK hP (hDw _) hS 18 4 0 0 xw_C_at_18 xw_C_at_4 rfl rfl rfl (by decide) (by decide) (by decide) (by decide) (by decide) (fun i _ => rfl) (by decide) (Nat.le_of_ble_eq_true rfl) d_Tow_copyFrom_42 (fun H locs hP _ hS => ?_)
  rw [xw_C_set_4] at hP
  replace hP : va_P D classes (xw_C ad cI cZ t3) H := by rw [e_t3]; exact hP
  clear e_t3
  refine lv_aload_n hx hb d_Tow_copyFrom_45 rfl (lv_at hl 1 rfl) ?_
  refine xk_get (C := R_Tow) (T := F_Tow) (N := 8) hx hb hts i_Tow hown hK hP 15 xw_C_at_15 rfl 3 (by decide) u_86 rfl d_Tow_copyFrom_46 ?_
  refine lv_iconst (v := (0 : Int32)) hx hb d_Tow_copyFrom_49 (by decide) ?_
  refine lv_aload_n hx hb d_Tow_copyFrom_50 rfl (lv_at hl 0 rfl) ?_
  refine xk_get (C := R_Tow) (T := F_Tow) (N := 8) hx hb hts i_Tow hown hK hP 1 xw_C_at_1 rfl 3 (by decide) u_86 rfl d_Tow_copyFrom_51 ?_
  refine lv_iconst (v := (0 : Int32)) hx hb d_Tow_copyFrom_54 (by decide) ?_
  refine lv_bipush (v := (6 : Int32)) hx hb d_Tow_copyFrom_55 (by decide) ?_
  obtain ⟨t4, e_t4, hF⟩ := xo_nm_e hF
  refine va_copyi hx hb (by rw [hml]; exact hl.1.symm) hown (hts _ u_mcopy_s287) (hts _ u_na_copy) (hts _ u_st_copy) (hts _ u_in_Sys) hK hP (hDw _) hS 19 5 0 0 xw_C_at_19 xw_C_at_5 rfl rfl rfl (by decide) (by decide) (by decide) (by decide) (by decide) (fun i _ => rfl) (by decide) (Nat.le_of_ble_eq_true rfl) d_Tow_copyFrom_57 (fun H locs hP _ hS => ?_)
  rw [xw_C_set_5] at hP
  replace hP : va_P D classes (xw_C ad cI cZ t4) H := by rw [e_t4]; exact hP
  clear e_t4
  refine lv_aload_n hx hb d_Tow_copyFrom_60 rfl (lv_at hl 0 rfl) ?_
  refine lv_aload_n hx hb d_Tow_copyFrom_61 rfl (lv_at hl 1 rfl) ?_
  refine xk_get (C := R_Tow) (T := F_Tow) (N := 8) hx hb hts i_Tow hown hK hP 15 xw_C_at_15 rfl 4 (by decide) u_89 rfl d_Tow_copyFrom_62 ?_
  obtain ⟨t5, e_t5, hF⟩ := xo_nm_e hF
  refine xk_put (C := R_Tow) (T := F_Tow) (N := 8) (ty := .int) hx hb hts i_Tow t_Tow t_Tow_ok n_Tow hown hK hP (hDw _) hS 1 xw_C_at_1 rfl 4 (by decide) u_89 rfl (by decide +kernel) rfl rfl (Nat.le_of_ble_eq_true rfl) (xw_C_put_1_4 _) d_Tow_copyFrom_65 (fun H locs hP hS => ?_)
  replace hP : va_P D classes (xw_C ad cI cZ t5) H := by rw [e_t5]; exact hP
  clear e_t5
  refine lv_aload_n hx hb d_Tow_copyFrom_68 rfl (lv_at hl 1 rfl) ?_
  refine xk_get (C := R_Tow) (T := F_Tow) (N := 8) hx hb hts i_Tow hown hK hP 15 xw_C_at_15 rfl 5 (by decide) u_92 rfl d_Tow_copyFrom_69 ?_
  refine lv_iconst (v := (0 : Int32)) hx hb d_Tow_copyFrom_72 (by decide) ?_
  refine lv_aload_n hx hb d_Tow_copyFrom_73 rfl (lv_at hl 0 rfl) ?_
  refine xk_get (C := R_Tow) (T := F_Tow) (N := 8) hx hb hts i_Tow hown hK hP 1 xw_C_at_1 rfl 5 (by decide) u_92 rfl d_Tow_copyFrom_74 ?_
  refine lv_iconst (v := (0 : Int32)) hx hb d_Tow_copyFrom_77 (by decide) ?_
  refine lv_bipush (v := (8 : Int32)) hx hb d_Tow_copyFrom_78 (by decide) ?_
  obtain ⟨t6, e_t6, hF⟩ := xo_nm_e hF
  refine va_copyi hx hb (by rw [hml]; exact hl.1.symm) hown (hts _ u_mcopy_s287) (hts _ u_na_copy) (hts _ u_st_copy) (hts _ u_in_Sys) hK hP (hDw _) hS 20 6 0 0 xw_C_at_20 xw_C_at_6 rfl rfl rfl (by decide) (by decide) (by decide) (by decide) (by decide) (fun i _ => rfl) (by decide) (Nat.le_of_ble_eq_true rfl) d_Tow_copyFrom_80 (fun H locs hP _ hS => ?_)
  rw [xw_C_set_6] at hP
  replace hP : va_P D classes (xw_C ad cI cZ t6) H := by rw [e_t6]; exact hP
  clear e_t6
  refine lv_aload_n hx hb d_Tow_copyFrom_83 rfl (lv_at hl 1 rfl) ?_
  refine xk_get (C := R_Tow) (T := F_Tow) (N := 8) hx hb hts i_Tow hown hK hP 15 xw_C_at_15 rfl 6 (by decide) u_95 rfl d_Tow_copyFrom_84 ?_
  refine lv_iconst (v := (0 : Int32)) hx hb d_Tow_copyFrom_87 (by decide) ?_
  refine lv_aload_n hx hb d_Tow_copyFrom_88 rfl (lv_at hl 0 rfl) ?_
  refine xk_get (C := R_Tow) (T := F_Tow) (N := 8) hx hb hts i_Tow hown hK hP 1 xw_C_at_1 rfl 6 (by decide) u_95 rfl d_Tow_copyFrom_89 ?_
  refine lv_iconst (v := (0 : Int32)) hx hb d_Tow_copyFrom_92 (by decide) ?_
  refine lv_bipush (v := (8 : Int32)) hx hb d_Tow_copyFrom_93 (by decide) ?_
  obtain ⟨t7, e_t7, hF⟩ := xo_nm_e hF
  refine va_copyi hx hb (by rw [hml]; exact hl.1.symm) hown (hts _ u_mcopy_s287) (hts _ u_na_copy) (hts _ u_st_copy) (hts _ u_in_Sys) hK hP (hDw _) hS 21 7 0 0 xw_C_at_21 xw_C_at_7 rfl rfl rfl (by decide) (by decide) (by decide) (by decide) (by decide) (fun i _ => rfl) (by decide) (Nat.le_of_ble_eq_true rfl) d_Tow_copyFrom_95 (fun H locs hP _ hS => ?_)
  rw [xw_C_set_7] at hP
  replace hP : va_P D classes (xw_C ad cI cZ t7) H := by rw [e_t7]; exact hP
  clear e_t7
  refine lv_aload_n hx hb d_Tow_copyFrom_98 rfl (lv_at hl 0 rfl) ?_
  refine lv_aload_n hx hb d_Tow_copyFrom_99 rfl (lv_at hl 1 rfl) ?_
  refine xk_get (C := R_Tow) (T := F_Tow) (N := 8) hx hb hts i_Tow hown hK hP 15 xw_C_at_15 rfl 7 (by decide) u_98 rfl d_Tow_copyFrom_100 ?_
  obtain ⟨t8, e_t8, hF⟩ := xo_nm_e hF
  refine xk_put (C := R_Tow) (T := F_Tow) (N := 8) (ty := .int) hx hb hts i_Tow t_Tow t_Tow_ok n_Tow hown hK hP (hDw _) hS 1 xw_C_at_1 rfl 7 (by decide) u_98 rfl (by decide +kernel) rfl rfl (Nat.le_of_ble_eq_true rfl) (xw_C_put_1_7 _) d_Tow_copyFrom_103 (fun H locs hP hS => ?_)
  replace hP : va_P D classes (xw_C ad cI cZ t8) H := by rw [e_t8]; exact hP
  clear e_t8
  have q9 := Option.some.inj hF
  subst q9
  exact hret 106 _ _ _ d_Tow_copyFrom_106 hP hS
