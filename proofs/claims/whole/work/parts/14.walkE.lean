set_option maxHeartbeats 4000000 in
set_option maxRecDepth 100000 in
theorem c_Mod_no (l : Launch) (D : va_G) (cI cZ : ClassId) (ad : Nat → Nat) (A : Nat → Prop) (adK adV : Nat → Nat) (hDw : ∀ st : XS, va_D A (xw_M ad cI cZ st)) (x1 : Int32) (st : XS) (r9 : Int32) (st9 : XS) (hF : F_Mod_no x1 st = some (r9, st9)) : K_I l D cI cZ A adK adV (xw_M ad cI cZ) y_Mod_no b_Mod_no 2 (some .int) 0 0 [.ref (ad 0), .int x1] st r9 st9 := by
  refine xk_startI (by decide) .int rfl (Nat.le_of_ble_eq_true rfl) ?_
  intro p e s m args below meth c Q ls hx hb hml hown hts hK hE hP hS hl hret
  replace hown : s.vm.findClass R_Mod = some m.cls := hown
  replace hl : lv_has ls 2 [(0, .ref (ad 0)), (1, .int x1)] := hl
  unfold F_Mod_no at hF
  refine lv_aload_n hx hb d_Mod_no_0 rfl (lv_at hl 0 rfl) ?_
  refine xk_get (C := R_Mod) (T := F_Mod) (N := 23) hx hb hts i_Mod hown hK hP 0 xw_M_at_0 rfl 14 (by decide) u_680 rfl d_Mod_no_1 ?_
  refine lv_iload_n hx hb d_Mod_no_4 rfl (lv_at hl 1 rfl) ?_
  refine lv_ineg hx hb d_Mod_no_5 ?_
  refine lv_dup2_11 hx hb d_Mod_no_6 rfl rfl ?_
  obtain ⟨v1, h_v1, hF⟩ := xo_ob hF
  refine xk_iald hx hb hK hP 10 xw_M_at_14 h_v1 d_Mod_no_7 ?_
  refine lv_iconst (v := (1 : Int32)) hx hb d_Mod_no_8 (by decide) ?_
  refine lv_iadd hx hb d_Mod_no_9 ?_
  obtain ⟨_, h_t2, hF⟩ := xo_ob hF
  obtain ⟨t2, e_t2, hF⟩ := xo_nm_e hF
  refine xk_iast hx hb hK hP (hDw _) hS 10 xw_M_at_14 h_t2 (xw_M_set_14 _) d_Mod_no_10 (fun H locs hP hS => ?_)
  replace hP : va_P D classes (xw_M ad cI cZ t2) H := by rw [e_t2]; exact hP
  clear e_t2
  refine lv_iload_n hx hb d_Mod_no_11 rfl (lv_at hl 1 rfl) ?_
  obtain ⟨q8, q9⟩ := xo_s2 hF
  subst q8
  subst q9
  exact hret 12 _ _ _ d_Mod_no_12 rfl hP hS
set_option maxHeartbeats 4000000 in
set_option maxRecDepth 100000 in
theorem c_Mod_letter (l : Launch) (D : va_G) (cI cZ : ClassId) (ad : Nat → Nat) (A : Nat → Prop) (adK adV : Nat → Nat) (hDw : ∀ st : XS, va_D A (xw_M ad cI cZ st)) (x1 : Int32) (st : XS) (r9 : Int32) (st9 : XS) (hF : F_Mod_letter x1 st = some (r9, st9)) : K_I l D cI cZ A adK adV (xw_M ad cI cZ) y_Mod_letter b_Mod_letter 2 (some .int) 1 21 [.ref (ad 0), .int x1] st r9 st9 := by
  refine xk_startI (by decide) .int rfl (Nat.le_of_ble_eq_true rfl) ?_
  intro p e s m args below meth c Q ls hx hb hml hown hts hK hE hP hS hl hret
  replace hown : s.vm.findClass R_Mod = some m.cls := hown
  replace hl : lv_has ls 2 [(0, .ref (ad 0)), (1, .int x1)] := hl
  unfold F_Mod_letter at hF
  have mg27 : ∀ (xs : XS), F_Mod_letter_m27 xs = some (r9, st9) → ∀ (H : Heap) (locs : List Loc) (ls : Array Slot), va_P D classes (xw_M ad cI cZ xs) H → va_S A s.heap H locs → lv_has ls 2 [(0, .ref (ad 0))] → W p l e (xk_rm 1 21) s m args below meth c H locs 0 0 Q (F0 m 27 ls []) := by
    intro xs hF H locs ls hP hS hl
    unfold F_Mod_letter_m27 at hF
    refine lv_aload_n hx hb d_Mod_letter_27 rfl (lv_at hl 0 rfl) ?_
    refine lv_bipush (v := (-6 : Int32)) hx hb d_Mod_letter_28 (by decide) ?_
    obtain ⟨v1, t2, h_v1, hF⟩ := xo_ob2 hF
    refine xk_goI (xk_runV (As := [.int (-6 : Int32)]) (rest := []) hx hb hml hown hts hK hE (fun _ h => h) hP hS ok_Mod_no in_Mod_no u_741 (c_Mod_no l D cI cZ ad A adK adV hDw (-6 : Int32) xs v1 t2 h_v1) (va_recv hK hP (ci := 4) (q0 := 0) rfl xw_M_at_0) (by decide) rfl hl.1 rfl (Nat.le_of_ble_eq_true rfl) d_Mod_letter_30 ⟨Nat.le_refl _, Nat.le_refl _⟩) (fun _ h => h) hS (fun H locs hP hS => ?_)
    obtain ⟨q8, q9⟩ := xo_s2 hF
    subst q8
    subst q9
    exact hret 33 _ _ _ d_Mod_letter_33 rfl hP hS
  refine lv_iload_n hx hb d_Mod_letter_0 rfl (lv_at hl 1 rfl) ?_
  refine lv_if_ge (tgt := 11) hx hb d_Mod_letter_1 (by decide) (fun c_218 => ?_) (fun c_218 => ?_)
  · replace hF := xo_if_t c_218 hF
    refine lv_iload_n hx hb d_Mod_letter_11 rfl (lv_at hl 1 rfl) ?_
    refine lv_sipush (v := (255 : Int32)) hx hb d_Mod_letter_12 (by decide) ?_
    refine lv_icmp_gt (tgt := 27) hx hb d_Mod_letter_15 (by decide) (fun c_219 => ?_) (fun c_219 => ?_)
    · replace hF := xo_if_t c_219 hF
      exact mg27 _ hF _ _ _ hP hS (lv_sub hl [0] rfl)
    · replace hF := xo_if_f c_219 hF
      refine lv_aload_n hx hb d_Mod_letter_18 rfl (lv_at hl 0 rfl) ?_
      refine xk_get (C := R_Mod) (T := F_Mod) (N := 23) hx hb hts i_Mod hown hK hP 0 xw_M_at_0 rfl 8 (by decide) u_674 rfl d_Mod_letter_19 ?_
      refine lv_bipush (v := (96 : Int32)) hx hb d_Mod_letter_22 (by decide) ?_
      refine lv_icmp_ne (tgt := 34) hx hb d_Mod_letter_24 (by decide) (fun c_220 => ?_) (fun c_220 => ?_)
      · replace hF := xo_if_f c_220 hF
        refine lv_aload_n hx hb d_Mod_letter_34 rfl (lv_at hl 0 rfl) ?_
        refine xk_get (C := R_Mod) (T := F_Mod) (N := 23) hx hb hts i_Mod hown hK hP 0 xw_M_at_0 rfl 9 (by decide) u_675 rfl d_Mod_letter_35 ?_
        refine lv_aload_n hx hb d_Mod_letter_38 rfl (lv_at hl 0 rfl) ?_
        refine lv_dup hx hb d_Mod_letter_39 rfl ?_
        refine xk_get (C := R_Mod) (T := F_Mod) (N := 23) hx hb hts i_Mod hown hK hP 0 xw_M_at_0 rfl 8 (by decide) u_674 rfl d_Mod_letter_40 ?_
        refine lv_dup_x1 hx hb d_Mod_letter_43 rfl rfl ?_
        refine lv_iconst (v := (1 : Int32)) hx hb d_Mod_letter_44 (by decide) ?_
        refine lv_iadd hx hb d_Mod_letter_45 ?_
        obtain ⟨t3, e_t3, hF⟩ := xo_nm_e hF
        refine xk_put (C := R_Mod) (T := F_Mod) (N := 23) (ty := .int) hx hb hts i_Mod t_Mod t_Mod_ok n_Mod hown hK hP (hDw _) hS 0 xw_M_at_0 rfl 8 (by decide) u_674 rfl (by decide +kernel) rfl rfl (Nat.le_of_ble_eq_true rfl) (xw_M_put_0_8 _) d_Mod_letter_46 (fun H locs hP hS => ?_)
        replace hP : va_P D classes (xw_M ad cI cZ t3) H := by rw [e_t3]; exact hP
        clear e_t3
        refine lv_iload_n hx hb d_Mod_letter_49 rfl (lv_at hl 1 rfl) ?_
        obtain ⟨_, h_t4, hF⟩ := xo_ob hF
        obtain ⟨t4, e_t4, hF⟩ := xo_nm_e hF
        refine xk_iast hx hb hK hP (hDw _) hS 7 xw_M_at_9 h_t4 (xw_M_set_9 _) d_Mod_letter_50 (fun H locs hP hS => ?_)
        replace hP : va_P D classes (xw_M ad cI cZ t4) H := by rw [e_t4]; exact hP
        clear e_t4
        refine lv_aload_n hx hb d_Mod_letter_51 rfl (lv_at hl 0 rfl) ?_
        refine xk_get (C := R_Mod) (T := F_Mod) (N := 23) hx hb hts i_Mod hown hK hP 0 xw_M_at_0 rfl 8 (by decide) u_674 rfl d_Mod_letter_52 ?_
        obtain ⟨q8, q9⟩ := xo_s2 hF
        subst q8
        subst q9
        exact hret 55 _ _ _ d_Mod_letter_55 rfl hP hS
      · replace hF := xo_if_t c_220 hF
        exact mg27 _ hF _ _ _ hP hS (lv_sub hl [0] rfl)
  · replace hF := xo_if_f c_218 hF
    refine lv_aload_n hx hb d_Mod_letter_4 rfl (lv_at hl 0 rfl) ?_
    refine lv_bipush (v := (-4 : Int32)) hx hb d_Mod_letter_5 (by decide) ?_
    obtain ⟨v5, t6, h_v5, hF⟩ := xo_ob2 hF
    refine xk_goI (xk_runV (As := [.int (-4 : Int32)]) (rest := []) hx hb hml hown hts hK hE (fun _ h => h) hP hS ok_Mod_no in_Mod_no u_741 (c_Mod_no l D cI cZ ad A adK adV hDw (-4 : Int32) st v5 t6 h_v5) (va_recv hK hP (ci := 4) (q0 := 0) rfl xw_M_at_0) (by decide) rfl hl.1 rfl (Nat.le_of_ble_eq_true rfl) d_Mod_letter_7 ⟨Nat.le_refl _, Nat.le_refl _⟩) (fun _ h => h) hS (fun H locs hP hS => ?_)
    obtain ⟨q8, q9⟩ := xo_s2 hF
    subst q8
    subst q9
    exact hret 10 _ _ _ d_Mod_letter_10 rfl hP hS
set_option maxHeartbeats 4000000 in
set_option maxRecDepth 100000 in
theorem c_Mod_is (l : Launch) (D : va_G) (cI cZ : ClassId) (ad : Nat → Nat) (A : Nat → Prop) (adK adV : Nat → Nat) (hDw : ∀ st : XS, va_D A (xw_M ad cI cZ st)) (x1 : Int32) (st : XS) (r9 : Int32) (st9 : XS) (hF : F_Mod_is x1 st = some (r9, st9)) : K_I l D cI cZ A adK adV (xw_M ad cI cZ) y_Mod_is b_Mod_is 2 (some .boolean) 0 0 [.ref (ad 0), .int x1] st r9 st9 := by
  refine xk_startI (by decide) .boolean rfl (Nat.le_of_ble_eq_true rfl) ?_
  intro p e s m args below meth c Q ls hx hb hml hown hts hK hE hP hS hl hret
  replace hown : s.vm.findClass R_Mod = some m.cls := hown
  replace hl : lv_has ls 2 [(0, .ref (ad 0)), (1, .int x1)] := hl
  unfold F_Mod_is at hF
  refine lv_aload_n hx hb d_Mod_is_0 rfl (lv_at hl 0 rfl) ?_
  refine xk_get (C := R_Mod) (T := F_Mod) (N := 23) hx hb hts i_Mod hown hK hP 0 xw_M_at_0 rfl 10 (by decide) u_676 rfl d_Mod_is_1 ?_
  refine lv_aload_n hx hb d_Mod_is_4 rfl (lv_at hl 0 rfl) ?_
  refine xk_get (C := R_Mod) (T := F_Mod) (N := 23) hx hb hts i_Mod hown hK hP 0 xw_M_at_0 rfl 8 (by decide) u_674 rfl d_Mod_is_5 ?_
  refine lv_icmp_eq (tgt := 24) hx hb d_Mod_is_8 (by decide) (fun c_221 => ?_) (fun c_221 => ?_)
  · replace hF := xo_if_t c_221 hF
    refine lv_iconst (v := (0 : Int32)) hx hb d_Mod_is_24 (by decide) ?_
    obtain ⟨q8, q9⟩ := xo_s2 hF
    subst q8
    subst q9
    exact hret 25 _ _ _ d_Mod_is_25 rfl hP hS
  · replace hF := xo_if_f c_221 hF
    refine lv_aload_n hx hb d_Mod_is_11 rfl (lv_at hl 0 rfl) ?_
    refine xk_get (C := R_Mod) (T := F_Mod) (N := 23) hx hb hts i_Mod hown hK hP 0 xw_M_at_0 rfl 9 (by decide) u_675 rfl d_Mod_is_12 ?_
    refine lv_aload_n hx hb d_Mod_is_15 rfl (lv_at hl 0 rfl) ?_
    refine xk_get (C := R_Mod) (T := F_Mod) (N := 23) hx hb hts i_Mod hown hK hP 0 xw_M_at_0 rfl 10 (by decide) u_676 rfl d_Mod_is_16 ?_
    obtain ⟨v1, h_v1, hF⟩ := xo_ob hF
    refine xk_iald hx hb hK hP 7 xw_M_at_9 h_v1 d_Mod_is_19 ?_
    refine lv_iload_n hx hb d_Mod_is_20 rfl (lv_at hl 1 rfl) ?_
    refine lv_icmp_eq (tgt := 26) hx hb d_Mod_is_21 (by decide) (fun c_222 => ?_) (fun c_222 => ?_)
    · replace hF := xo_if_t c_222 hF
      refine lv_aload_n hx hb d_Mod_is_26 rfl (lv_at hl 0 rfl) ?_
      refine lv_dup hx hb d_Mod_is_27 rfl ?_
      refine xk_get (C := R_Mod) (T := F_Mod) (N := 23) hx hb hts i_Mod hown hK hP 0 xw_M_at_0 rfl 10 (by decide) u_676 rfl d_Mod_is_28 ?_
      refine lv_iconst (v := (1 : Int32)) hx hb d_Mod_is_31 (by decide) ?_
      refine lv_iadd hx hb d_Mod_is_32 ?_
      obtain ⟨t2, e_t2, hF⟩ := xo_nm_e hF
      refine xk_put (C := R_Mod) (T := F_Mod) (N := 23) (ty := .int) hx hb hts i_Mod t_Mod t_Mod_ok n_Mod hown hK hP (hDw _) hS 0 xw_M_at_0 rfl 10 (by decide) u_676 rfl (by decide +kernel) rfl rfl (Nat.le_of_ble_eq_true rfl) (xw_M_put_0_10 _) d_Mod_is_33 (fun H locs hP hS => ?_)
      replace hP : va_P D classes (xw_M ad cI cZ t2) H := by rw [e_t2]; exact hP
      clear e_t2
      refine lv_iconst (v := (1 : Int32)) hx hb d_Mod_is_36 (by decide) ?_
      obtain ⟨q8, q9⟩ := xo_s2 hF
      subst q8
      subst q9
      exact hret 37 _ _ _ d_Mod_is_37 rfl hP hS
    · replace hF := xo_if_f c_222 hF
      refine lv_iconst (v := (0 : Int32)) hx hb d_Mod_is_24 (by decide) ?_
      obtain ⟨q8, q9⟩ := xo_s2 hF
      subst q8
      subst q9
      exact hret 25 _ _ _ d_Mod_is_25 rfl hP hS
set_option maxHeartbeats 4000000 in
set_option maxRecDepth 100000 in
theorem c_Mod_isDigit (l : Launch) (D : va_G) (cI cZ : ClassId) (ad : Nat → Nat) (A : Nat → Prop) (adK adV : Nat → Nat) (hDw : ∀ st : XS, va_D A (xw_M ad cI cZ st)) (st : XS) (r9 : Int32) (hF : F_Mod_isDigit  st = some r9) : K_I l D cI cZ A adK adV (xw_M ad cI cZ) y_Mod_isDigit b_Mod_isDigit 1 (some .boolean) 0 0 [.ref (ad 0)] st r9 st := by
  refine xk_startI (by decide) .boolean rfl (Nat.le_of_ble_eq_true rfl) ?_
  intro p e s m args below meth c Q ls hx hb hml hown hts hK hE hP hS hl hret
  replace hown : s.vm.findClass R_Mod = some m.cls := hown
  replace hl : lv_has ls 1 [(0, .ref (ad 0))] := hl
  unfold F_Mod_isDigit at hF
  refine lv_aload_n hx hb d_Mod_isDigit_0 rfl (lv_at hl 0 rfl) ?_
  refine xk_get (C := R_Mod) (T := F_Mod) (N := 23) hx hb hts i_Mod hown hK hP 0 xw_M_at_0 rfl 10 (by decide) u_676 rfl d_Mod_isDigit_1 ?_
  refine lv_aload_n hx hb d_Mod_isDigit_4 rfl (lv_at hl 0 rfl) ?_
  refine xk_get (C := R_Mod) (T := F_Mod) (N := 23) hx hb hts i_Mod hown hK hP 0 xw_M_at_0 rfl 8 (by decide) u_674 rfl d_Mod_isDigit_5 ?_
  refine lv_icmp_ge (tgt := 43) hx hb d_Mod_isDigit_8 (by decide) (fun c_223 => ?_) (fun c_223 => ?_)
  · replace hF := xo_if_t c_223 hF
    refine lv_iconst (v := (0 : Int32)) hx hb d_Mod_isDigit_43 (by decide) ?_
    have q9 := Option.some.inj hF
    subst q9
    exact hret 44 _ _ _ d_Mod_isDigit_44 rfl hP hS
  · replace hF := xo_if_f c_223 hF
    refine lv_aload_n hx hb d_Mod_isDigit_11 rfl (lv_at hl 0 rfl) ?_
    refine xk_get (C := R_Mod) (T := F_Mod) (N := 23) hx hb hts i_Mod hown hK hP 0 xw_M_at_0 rfl 9 (by decide) u_675 rfl d_Mod_isDigit_12 ?_
    refine lv_aload_n hx hb d_Mod_isDigit_15 rfl (lv_at hl 0 rfl) ?_
    refine xk_get (C := R_Mod) (T := F_Mod) (N := 23) hx hb hts i_Mod hown hK hP 0 xw_M_at_0 rfl 10 (by decide) u_676 rfl d_Mod_isDigit_16 ?_
    obtain ⟨v1, h_v1, hF⟩ := xo_ob hF
    refine xk_iald hx hb hK hP 7 xw_M_at_9 h_v1 d_Mod_isDigit_19 ?_
    refine lv_bipush (v := (48 : Int32)) hx hb d_Mod_isDigit_20 (by decide) ?_
    refine lv_icmp_lt (tgt := 43) hx hb d_Mod_isDigit_22 (by decide) (fun c_224 => ?_) (fun c_224 => ?_)
    · replace hF := xo_if_t c_224 hF
      refine lv_iconst (v := (0 : Int32)) hx hb d_Mod_isDigit_43 (by decide) ?_
      have q9 := Option.some.inj hF
      subst q9
      exact hret 44 _ _ _ d_Mod_isDigit_44 rfl hP hS
    · replace hF := xo_if_f c_224 hF
      refine lv_aload_n hx hb d_Mod_isDigit_25 rfl (lv_at hl 0 rfl) ?_
      refine xk_get (C := R_Mod) (T := F_Mod) (N := 23) hx hb hts i_Mod hown hK hP 0 xw_M_at_0 rfl 9 (by decide) u_675 rfl d_Mod_isDigit_26 ?_
      refine lv_aload_n hx hb d_Mod_isDigit_29 rfl (lv_at hl 0 rfl) ?_
      refine xk_get (C := R_Mod) (T := F_Mod) (N := 23) hx hb hts i_Mod hown hK hP 0 xw_M_at_0 rfl 10 (by decide) u_676 rfl d_Mod_isDigit_30 ?_
      obtain ⟨v2, h_v2, hF⟩ := xo_ob hF
      refine xk_iald hx hb hK hP 7 xw_M_at_9 h_v2 d_Mod_isDigit_33 ?_
      refine lv_bipush (v := (57 : Int32)) hx hb d_Mod_isDigit_34 (by decide) ?_
      refine lv_icmp_gt (tgt := 43) hx hb d_Mod_isDigit_36 (by decide) (fun c_225 => ?_) (fun c_225 => ?_)
      · replace hF := xo_if_t c_225 hF
        refine lv_iconst (v := (0 : Int32)) hx hb d_Mod_isDigit_43 (by decide) ?_
        have q9 := Option.some.inj hF
        subst q9
        exact hret 44 _ _ _ d_Mod_isDigit_44 rfl hP hS
      · replace hF := xo_if_f c_225 hF
        refine lv_iconst (v := (1 : Int32)) hx hb d_Mod_isDigit_39 (by decide) ?_
        refine lv_goto (tgt := 44) hx hb d_Mod_isDigit_40 (by decide) ?_
        have q9 := Option.some.inj hF
        subst q9
        exact hret 44 _ _ _ d_Mod_isDigit_44 rfl hP hS
set_option maxHeartbeats 4000000 in
set_option maxRecDepth 100000 in
theorem c_Mod_number (l : Launch) (D : va_G) (cI cZ : ClassId) (ad : Nat → Nat) (A : Nat → Prop) (adK adV : Nat → Nat) (hDw : ∀ st : XS, va_D A (xw_M ad cI cZ st)) (x1 : Int32) (x2 : Int32) (st : XS) (r9 : Int32) (st9 : XS) (hF : F_Mod_number x1 x2 st = some (r9, st9)) : K_I l D cI cZ A adK adV (xw_M ad cI cZ) y_Mod_number b_Mod_number 5 (some .boolean) 1 21 [.ref (ad 0), .int x1, .int x2] st r9 st9 := by
  refine xk_startI (by decide) .boolean rfl (Nat.le_of_ble_eq_true rfl) ?_
  intro p e s m args below meth c Q ls hx hb hml hown hts hK hE hP hS hl hret
  replace hown : s.vm.findClass R_Mod = some m.cls := hown
  replace hl : lv_has ls 5 [(0, .ref (ad 0)), (1, .int x1), (2, .int x2)] := hl
  unfold F_Mod_number at hF
  have mg88 : ∀ (x1 : Int32) (x3 : Int32) (x4 : Int32) (xs : XS), F_Mod_number_m88 x1 x3 x4 xs = some (r9, st9) → ∀ (H : Heap) (locs : List Loc) (ls : Array Slot), va_P D classes (xw_M ad cI cZ xs) H → va_S A s.heap H locs → lv_has ls 5 [(0, .ref (ad 0)), (1, .int x1), (3, .int x3), (4, .int x4)] → W p l e (xk_rm 1 21) s m args below meth c H locs 0 0 Q (F0 m 88 ls []) := by
    intro x1 x3 x4 xs hF H locs ls hP hS hl
    unfold F_Mod_number_m88 at hF
    refine lv_aload_n hx hb d_Mod_number_88 rfl (lv_at hl 0 rfl) ?_
    refine xk_get (C := R_Mod) (T := F_Mod) (N := 23) hx hb hts i_Mod hown hK hP 0 xw_M_at_0 rfl 11 (by decide) u_677 rfl d_Mod_number_89 ?_
    refine lv_iload_n hx hb d_Mod_number_92 rfl (lv_at hl 1 rfl) ?_
    refine lv_iload_n hx hb d_Mod_number_93 rfl (lv_at hl 2 rfl) ?_
    refine lv_if_eq (tgt := 103) hx hb d_Mod_number_94 (by decide) (fun c_226 => ?_) (fun c_226 => ?_)
    · replace hF := xo_if_t c_226 hF
      refine lv_iload hx hb d_Mod_number_103 (lv_at hl 3 rfl) ?_
      obtain ⟨_, h_t1, hF⟩ := xo_ob hF
      obtain ⟨t1, e_t1, hF⟩ := xo_nm_e hF
      refine xk_iast hx hb hK hP (hDw _) hS 8 xw_M_at_11 h_t1 (xw_M_set_11 _) d_Mod_number_105 (fun H locs hP hS => ?_)
      replace hP : va_P D classes (xw_M ad cI cZ t1) H := by rw [e_t1]; exact hP
      clear e_t1
      refine lv_iconst (v := (1 : Int32)) hx hb d_Mod_number_106 (by decide) ?_
      obtain ⟨q8, q9⟩ := xo_s2 hF
      subst q8
      subst q9
      exact hret 107 _ _ _ d_Mod_number_107 rfl hP hS
    · replace hF := xo_if_f c_226 hF
      refine lv_iload hx hb d_Mod_number_97 (lv_at hl 3 rfl) ?_
      refine lv_ineg hx hb d_Mod_number_99 ?_
      refine lv_goto (tgt := 105) hx hb d_Mod_number_100 (by decide) ?_
      obtain ⟨_, h_t2, hF⟩ := xo_ob hF
      obtain ⟨t2, e_t2, hF⟩ := xo_nm_e hF
      refine xk_iast hx hb hK hP (hDw _) hS 8 xw_M_at_11 h_t2 (xw_M_set_11 _) d_Mod_number_105 (fun H locs hP hS => ?_)
      replace hP : va_P D classes (xw_M ad cI cZ t2) H := by rw [e_t2]; exact hP
      clear e_t2
      refine lv_iconst (v := (1 : Int32)) hx hb d_Mod_number_106 (by decide) ?_
      obtain ⟨q8, q9⟩ := xo_s2 hF
      subst q8
      subst q9
      exact hret 107 _ _ _ d_Mod_number_107 rfl hP hS
  have mg20 : ∀ (x1 : Int32) (x2 : Int32) (x3 : Int32) (xs : XS), F_Mod_number_m20 x1 x2 x3 xs = some (r9, st9) → ∀ (H : Heap) (locs : List Loc) (ls : Array Slot), va_P D classes (xw_M ad cI cZ xs) H → va_S A s.heap H locs → lv_has ls 5 [(0, .ref (ad 0)), (1, .int x1), (2, .int x2), (3, .int x3)] → W p l e (xk_rm 1 21) s m args below meth c H locs 0 0 Q (F0 m 20 ls []) := by
    intro x1 x2 x3 xs hF H locs ls hP hS hl
    unfold F_Mod_number_m20 at hF
    refine lv_aload_n hx hb d_Mod_number_20 rfl (lv_at hl 0 rfl) ?_
    obtain ⟨v3, h_v3, hF⟩ := xo_ob hF
    refine xk_goI (xk_runV (As := []) (rest := []) hx hb hml hown hts hK hE (fun _ h => h) hP hS ok_Mod_isDigit in_Mod_isDigit u_761 (c_Mod_isDigit l D cI cZ ad A adK adV hDw xs v3 h_v3) (va_recv hK hP (ci := 4) (q0 := 0) rfl xw_M_at_0) (by decide) rfl hl.1 rfl (Nat.le_of_ble_eq_true rfl) d_Mod_number_21 ⟨Nat.le_refl _, Nat.le_refl _⟩) (fun _ h => h) hS (fun H locs hP hS => ?_)
    refine lv_if_ne (tgt := 29) hx hb d_Mod_number_24 (by decide) (fun c_227 => ?_) (fun c_227 => ?_)
    · replace hF := xo_if_f c_227 hF
      refine lv_aload_n hx hb d_Mod_number_29 rfl (lv_at hl 0 rfl) ?_
      refine xk_get (C := R_Mod) (T := F_Mod) (N := 23) hx hb hts i_Mod hown hK hP 0 xw_M_at_0 rfl 9 (by decide) u_675 rfl d_Mod_number_30 ?_
      refine lv_aload_n hx hb d_Mod_number_33 rfl (lv_at hl 0 rfl) ?_
      refine lv_dup hx hb d_Mod_number_34 rfl ?_
      refine xk_get (C := R_Mod) (T := F_Mod) (N := 23) hx hb hts i_Mod hown hK hP 0 xw_M_at_0 rfl 10 (by decide) u_676 rfl d_Mod_number_35 ?_
      refine lv_dup_x1 hx hb d_Mod_number_38 rfl rfl ?_
      refine lv_iconst (v := (1 : Int32)) hx hb d_Mod_number_39 (by decide) ?_
      refine lv_iadd hx hb d_Mod_number_40 ?_
      obtain ⟨t4, e_t4, hF⟩ := xo_nm_e hF
      refine xk_put (C := R_Mod) (T := F_Mod) (N := 23) (ty := .int) hx hb hts i_Mod t_Mod t_Mod_ok n_Mod hown hK hP (hDw _) hS 0 xw_M_at_0 rfl 10 (by decide) u_676 rfl (by decide +kernel) rfl rfl (Nat.le_of_ble_eq_true rfl) (xw_M_put_0_10 _) d_Mod_number_41 (fun H locs hP hS => ?_)
      replace hP : va_P D classes (xw_M ad cI cZ t4) H := by rw [e_t4]; exact hP
      clear e_t4
      obtain ⟨v5, h_v5, hF⟩ := xo_ob hF
      refine xk_iald hx hb hK hP 7 xw_M_at_9 h_v5 d_Mod_number_44 ?_
      refine lv_bipush (v := (48 : Int32)) hx hb d_Mod_number_45 (by decide) ?_
      refine lv_isub hx hb d_Mod_number_47 ?_
      refine lv_topi (fun v6 e_v6 => ?_)
      replace hF := xo_nm_u hF e_v6
      clear e_v6
      refine lv_istore (lv' := [(4, .int v6), (0, .ref (ad 0)), (1, .int x1), (2, .int x2), (3, .int x3)]) hx hb d_Mod_number_48 hl (by decide) rfl (fun ls hl => ?_)
      refine lv_iload_n hx hb d_Mod_number_50 rfl (lv_at hl 3 rfl) ?_
      refine lv_if_eq (tgt := 88) hx hb d_Mod_number_51 (by decide) (fun c_228 => ?_) (fun c_228 => ?_)
      · replace hF := xo_if_t c_228 hF
        exact mg88 _ _ _ _ hF _ _ _ hP hS (lv_sub hl [1, 2, 4, 0] rfl)
      · replace hF := xo_if_f c_228 hF
        refine lv_aload_n hx hb d_Mod_number_54 rfl (lv_at hl 1 rfl) ?_
        obtain ⟨v7, h_v7, hF⟩ := xo_ob hF
        refine xk_goI (xk_runV (As := []) (rest := []) hx hb hml hown hts hK hE (fun _ h => h) hP hS ok_Mod_isDigit in_Mod_isDigit u_761 (c_Mod_isDigit l D cI cZ ad A adK adV hDw t4 v7 h_v7) (va_recv hK hP (ci := 4) (q0 := 0) rfl xw_M_at_0) (by decide) rfl hl.1 rfl (Nat.le_of_ble_eq_true rfl) d_Mod_number_55 ⟨Nat.le_refl _, Nat.le_refl _⟩) (fun _ h => h) hS (fun H locs hP hS => ?_)
        refine lv_if_eq (tgt := 88) hx hb d_Mod_number_58 (by decide) (fun c_229 => ?_) (fun c_229 => ?_)
        · replace hF := xo_if_t c_229 hF
          exact mg88 _ _ _ _ hF _ _ _ hP hS (lv_sub hl [1, 2, 4, 0] rfl)
        · replace hF := xo_if_f c_229 hF
          refine lv_bipush (v := (10 : Int32)) hx hb d_Mod_number_61 (by decide) ?_
          refine lv_iload hx hb d_Mod_number_63 (lv_at hl 0 rfl) ?_
          refine lv_imul hx hb d_Mod_number_65 ?_
          refine lv_aload_n hx hb d_Mod_number_66 rfl (lv_at hl 1 rfl) ?_
          refine xk_get (C := R_Mod) (T := F_Mod) (N := 23) hx hb hts i_Mod hown hK hP 0 xw_M_at_0 rfl 9 (by decide) u_675 rfl d_Mod_number_67 ?_
          refine lv_aload_n hx hb d_Mod_number_70 rfl (lv_at hl 1 rfl) ?_
          refine lv_dup hx hb d_Mod_number_71 rfl ?_
          refine xk_get (C := R_Mod) (T := F_Mod) (N := 23) hx hb hts i_Mod hown hK hP 0 xw_M_at_0 rfl 10 (by decide) u_676 rfl d_Mod_number_72 ?_
          refine lv_dup_x1 hx hb d_Mod_number_75 rfl rfl ?_
          refine lv_iconst (v := (1 : Int32)) hx hb d_Mod_number_76 (by decide) ?_
          refine lv_iadd hx hb d_Mod_number_77 ?_
          obtain ⟨t8, e_t8, hF⟩ := xo_nm_e hF
          refine xk_put (C := R_Mod) (T := F_Mod) (N := 23) (ty := .int) hx hb hts i_Mod t_Mod t_Mod_ok n_Mod hown hK hP (hDw _) hS 0 xw_M_at_0 rfl 10 (by decide) u_676 rfl (by decide +kernel) rfl rfl (Nat.le_of_ble_eq_true rfl) (xw_M_put_0_10 _) d_Mod_number_78 (fun H locs hP hS => ?_)
          replace hP : va_P D classes (xw_M ad cI cZ t8) H := by rw [e_t8]; exact hP
          clear e_t8
          obtain ⟨v9, h_v9, hF⟩ := xo_ob hF
          refine xk_iald hx hb hK hP 7 xw_M_at_9 h_v9 d_Mod_number_81 ?_
          refine lv_iadd hx hb d_Mod_number_82 ?_
          refine lv_bipush (v := (48 : Int32)) hx hb d_Mod_number_83 (by decide) ?_
          refine lv_isub hx hb d_Mod_number_85 ?_
          refine lv_topi (fun v10 e_v10 => ?_)
          replace hF := xo_nm_u hF e_v10
          clear e_v10
          refine lv_istore (lv' := [(4, .int v10), (0, .ref (ad 0)), (1, .int x1), (2, .int x2), (3, .int x3)]) hx hb d_Mod_number_86 hl (by decide) rfl (fun ls hl => ?_)
          exact mg88 _ _ _ _ hF _ _ _ hP hS (lv_sub hl [1, 2, 4, 0] rfl)
    · replace hF := xo_if_t c_227 hF
      refine lv_iconst (v := (0 : Int32)) hx hb d_Mod_number_27 (by decide) ?_
      obtain ⟨q8, q9⟩ := xo_s2 hF
      subst q8
      subst q9
      exact hret 28 _ _ _ d_Mod_number_28 rfl hP hS
  refine lv_aload_n hx hb d_Mod_number_0 rfl (lv_at hl 0 rfl) ?_
  refine lv_bipush (v := (45 : Int32)) hx hb d_Mod_number_1 (by decide) ?_
  obtain ⟨v11, t12, h_v11, hF⟩ := xo_ob2 hF
  refine xk_goI (xk_runV (As := [.int (45 : Int32)]) (rest := []) hx hb hml hown hts hK hE (fun _ h => h) hP hS ok_Mod_is in_Mod_is u_753 (c_Mod_is l D cI cZ ad A adK adV hDw (45 : Int32) st v11 t12 h_v11) (va_recv hK hP (ci := 4) (q0 := 0) rfl xw_M_at_0) (by decide) rfl hl.1 rfl (Nat.le_of_ble_eq_true rfl) d_Mod_number_3 ⟨Nat.le_refl _, Nat.le_refl _⟩) (fun _ h => h) hS (fun H locs hP hS => ?_)
  refine lv_istore_n (lv' := [(3, .int v11), (0, .ref (ad 0)), (1, .int x1), (2, .int x2)]) hx hb d_Mod_number_6 rfl hl (by decide) rfl (fun ls hl => ?_)
  refine lv_iload_n hx hb d_Mod_number_7 rfl (lv_at hl 0 rfl) ?_
  refine lv_if_ne (tgt := 20) hx hb d_Mod_number_8 (by decide) (fun c_230 => ?_) (fun c_230 => ?_)
  · replace hF := xo_if_f c_230 hF
    exact mg20 _ _ _ _ hF _ _ _ hP hS (lv_sub hl [1, 2, 3, 0] rfl)
  · replace hF := xo_if_t c_230 hF
    refine lv_aload_n hx hb d_Mod_number_11 rfl (lv_at hl 1 rfl) ?_
    refine lv_bipush (v := (43 : Int32)) hx hb d_Mod_number_12 (by decide) ?_
    obtain ⟨v13, t14, h_v13, hF⟩ := xo_ob2 hF
    refine xk_goI (xk_runV (As := [.int (43 : Int32)]) (rest := []) hx hb hml hown hts hK hE (fun _ h => h) hP hS ok_Mod_is in_Mod_is u_753 (c_Mod_is l D cI cZ ad A adK adV hDw (43 : Int32) t12 v13 t14 h_v13) (va_recv hK hP (ci := 4) (q0 := 0) rfl xw_M_at_0) (by decide) rfl hl.1 rfl (Nat.le_of_ble_eq_true rfl) d_Mod_number_14 ⟨Nat.le_refl _, Nat.le_refl _⟩) (fun _ h => h) hS (fun H locs hP hS => ?_)
    refine lv_if_eq (tgt := 27) hx hb d_Mod_number_17 (by decide) (fun c_231 => ?_) (fun c_231 => ?_)
    · replace hF := xo_if_t c_231 hF
      refine lv_iconst (v := (0 : Int32)) hx hb d_Mod_number_27 (by decide) ?_
      obtain ⟨q8, q9⟩ := xo_s2 hF
      subst q8
      subst q9
      exact hret 28 _ _ _ d_Mod_number_28 rfl hP hS
    · replace hF := xo_if_f c_231 hF
      exact mg20 _ _ _ _ hF _ _ _ hP hS (lv_sub hl [1, 2, 3, 0] rfl)
set_option maxHeartbeats 4000000 in
set_option maxRecDepth 100000 in
theorem c_Mod_within (l : Launch) (D : va_G) (cI cZ : ClassId) (ad : Nat → Nat) (A : Nat → Prop) (adK adV : Nat → Nat) (hDw : ∀ st : XS, va_D A (xw_M ad cI cZ st)) (x0 : Int32) (x1 : Int32) (x2 : Int32) (st : XS) (r9 : Int32) (hF : F_Mod_within x0 x1 x2 = some r9) : K_I l D cI cZ A adK adV (xw_M ad cI cZ) y_Mod_within b_Mod_within 3 (some .boolean) 0 0 [.int x0, .int x1, .int x2] st r9 st := by
  refine xk_startI (by decide) .boolean rfl (Nat.le_of_ble_eq_true rfl) ?_
  intro p e s m args below meth c Q ls hx hb hml hown hts hK hE hP hS hl hret
  replace hown : s.vm.findClass R_Mod = some m.cls := hown
  replace hl : lv_has ls 3 [(0, .int x0), (1, .int x1), (2, .int x2)] := hl
  unfold F_Mod_within at hF
  refine lv_iload_n hx hb d_Mod_within_0 rfl (lv_at hl 0 rfl) ?_
  refine lv_iload_n hx hb d_Mod_within_1 rfl (lv_at hl 1 rfl) ?_
  refine lv_icmp_lt (tgt := 14) hx hb d_Mod_within_2 (by decide) (fun c_232 => ?_) (fun c_232 => ?_)
  · replace hF := xo_if_t c_232 hF
    refine lv_iconst (v := (0 : Int32)) hx hb d_Mod_within_14 (by decide) ?_
    have q9 := Option.some.inj hF
    subst q9
    exact hret 15 _ _ _ d_Mod_within_15 rfl hP hS
  · replace hF := xo_if_f c_232 hF
    refine lv_iload_n hx hb d_Mod_within_5 rfl (lv_at hl 0 rfl) ?_
    refine lv_iload_n hx hb d_Mod_within_6 rfl (lv_at hl 2 rfl) ?_
    refine lv_icmp_gt (tgt := 14) hx hb d_Mod_within_7 (by decide) (fun c_233 => ?_) (fun c_233 => ?_)
    · replace hF := xo_if_t c_233 hF
      refine lv_iconst (v := (0 : Int32)) hx hb d_Mod_within_14 (by decide) ?_
      have q9 := Option.some.inj hF
      subst q9
      exact hret 15 _ _ _ d_Mod_within_15 rfl hP hS
    · replace hF := xo_if_f c_233 hF
      refine lv_iconst (v := (1 : Int32)) hx hb d_Mod_within_10 (by decide) ?_
      refine lv_goto (tgt := 15) hx hb d_Mod_within_11 (by decide) ?_
      have q9 := Option.some.inj hF
      subst q9
      exact hret 15 _ _ _ d_Mod_within_15 rfl hP hS
set_option maxHeartbeats 4000000 in
set_option maxRecDepth 100000 in
theorem c_Mod_isDirection (l : Launch) (D : va_G) (cI cZ : ClassId) (ad : Nat → Nat) (A : Nat → Prop) (adK adV : Nat → Nat) (hDw : ∀ st : XS, va_D A (xw_M ad cI cZ st)) (x1 : Int32) (x2 : Int32) (x3 : Int32) (st : XS) (r9 : Int32) (hF : F_Mod_isDirection x1 x2 x3 st = some r9) : K_I l D cI cZ A adK adV (xw_M ad cI cZ) y_Mod_isDirection b_Mod_isDirection 5 (some .boolean) 0 0 [.ref (ad 0), .int x1, .int x2, .int x3] st r9 st := by
  refine xk_startI (by decide) .boolean rfl (Nat.le_of_ble_eq_true rfl) ?_
  intro p e s m args below meth c Q ls hx hb hml hown hts hK hE hP hS hl hret
  replace hown : s.vm.findClass R_Mod = some m.cls := hown
  replace hl : lv_has ls 5 [(0, .ref (ad 0)), (1, .int x1), (2, .int x2), (3, .int x3)] := hl
  unfold F_Mod_isDirection at hF
  refine lv_iconst (v := (0 : Int32)) hx hb d_Mod_isDirection_0 (by decide) ?_
  refine lv_istore (lv' := [(4, .int (0 : Int32)), (0, .ref (ad 0)), (1, .int x1), (2, .int x2), (3, .int x3)]) hx hb d_Mod_isDirection_1 hl (by decide) rfl (fun ls hl => ?_)
  have lp3 : ∀ (n : Nat) (w3_4 : Int32) (y : (Unit ⊕ Unit)), xo_lp (fun q : Int32 => F_Mod_isDirection_b3 x1 x2 x3 st q) n w3_4 = some y → ((.inl ()) = y → ∀ (H : Heap) (locs : List Loc) (ls : Array Slot), va_P D classes (xw_M ad cI cZ st) H → va_S A s.heap H locs → lv_has ls 5 [] → W p l e (xk_rm 0 0) s m args below meth c H locs 0 0 Q (F0 m 30 ls [])) → ((.inr ()) = y → ∀ (H : Heap) (locs : List Loc) (ls : Array Slot), va_P D classes (xw_M ad cI cZ st) H → va_S A s.heap H locs → lv_has ls 5 [] → W p l e (xk_rm 0 0) s m args below meth c H locs 0 0 Q (F0 m 38 ls [])) → ∀ (H : Heap) (locs : List Loc) (ls : Array Slot), va_P D classes (xw_M ad cI cZ st) H → va_S A s.heap H locs → lv_has ls 5 [(0, .ref (ad 0)), (1, .int x1), (2, .int x2), (3, .int x3), (4, .int w3_4)] → W p l e (xk_rm 0 0) s m args below meth c H locs 0 0 Q (F0 m 3 ls []) := by
    intro n
    induction n with
    | zero =>
      intro w3_4 y hL
      exact nomatch (show (none : Option _) = some y from hL)
    | succ n ih =>
      intro w3_4 y hL kx0 kx1 H locs ls hP hS hl
      obtain ⟨z9, hB, hL⟩ := xo_lp_s hL
      replace hB : F_Mod_isDirection_b3 x1 x2 x3 st w3_4 = some z9 := hB
      unfold F_Mod_isDirection_b3 at hB
      refine lv_iload hx hb d_Mod_isDirection_3 (lv_at hl 4 rfl) ?_
      refine lv_iload_n hx hb d_Mod_isDirection_5 rfl (lv_at hl 3 rfl) ?_
      refine lv_icmp_ge (tgt := 38) hx hb d_Mod_isDirection_6 (by decide) (fun c_234 => ?_) (fun c_234 => ?_)
      · replace hB := xo_if_t c_234 hB
        have q9 := Option.some.inj hB
        subst q9
        replace hL := Option.some.inj (xo_elR hL)
        subst hL
        exact kx1  rfl _ _ _ hP hS (lv_sub hl [] rfl)
      · replace hB := xo_if_f c_234 hB
        refine lv_aload_n hx hb d_Mod_isDirection_9 rfl (lv_at hl 0 rfl) ?_
        refine xk_get (C := R_Mod) (T := F_Mod) (N := 23) hx hb hts i_Mod hown hK hP 0 xw_M_at_0 rfl 2 (by decide) u_668 rfl d_Mod_isDirection_10 ?_
        refine lv_iload hx hb d_Mod_isDirection_13 (lv_at hl 4 rfl) ?_
        obtain ⟨v1, h_v1, hB⟩ := xo_ob hB
        refine xk_iald hx hb hK hP 2 xw_M_at_2 h_v1 d_Mod_isDirection_15 ?_
        refine lv_iload_n hx hb d_Mod_isDirection_16 rfl (lv_at hl 2 rfl) ?_
        refine lv_imul hx hb d_Mod_isDirection_17 ?_
        refine lv_iload_n hx hb d_Mod_isDirection_18 rfl (lv_at hl 1 rfl) ?_
        refine lv_aload_n hx hb d_Mod_isDirection_19 rfl (lv_at hl 0 rfl) ?_
        refine xk_get (C := R_Mod) (T := F_Mod) (N := 23) hx hb hts i_Mod hown hK hP 0 xw_M_at_0 rfl 3 (by decide) u_669 rfl d_Mod_isDirection_20 ?_
        refine lv_iload hx hb d_Mod_isDirection_23 (lv_at hl 4 rfl) ?_
        obtain ⟨v2, h_v2, hB⟩ := xo_ob hB
        refine xk_iald hx hb hK hP 3 xw_M_at_3 h_v2 d_Mod_isDirection_25 ?_
        refine lv_imul hx hb d_Mod_isDirection_26 ?_
        refine lv_icmp_ne (tgt := 32) hx hb d_Mod_isDirection_27 (by decide) (fun c_235 => ?_) (fun c_235 => ?_)
        · replace hB := xo_if_f c_235 hB
          obtain ⟨v3, e_v3, hB⟩ := xo_nm_e hB
          refine lv_iinc (v := v3) (lv' := [(4, .int v3), (0, .ref (ad 0)), (1, .int x1), (2, .int x2), (3, .int x3)]) hx hb d_Mod_isDirection_32 hl (k := 4) rfl (by rw [e_v3]; rfl) (by decide) rfl (fun ls hl => ?_)
          clear e_v3
          refine lv_goto (tgt := 3) hx hb d_Mod_isDirection_35 (by decide) ?_
          have q9 := Option.some.inj hB
          subst q9
          exact ih _ _ (xo_elL hL) kx0 kx1 _ _ _ hP hS (lv_sub hl [1, 2, 3, 4, 0] rfl)
        · replace hB := xo_if_t c_235 hB
          have q9 := Option.some.inj hB
          subst q9
          replace hL := Option.some.inj (xo_elR hL)
          subst hL
          exact kx0  rfl _ _ _ hP hS (lv_sub hl [] rfl)
  obtain ⟨y3, hL3, hF⟩ := xo_ob hF
  refine lp3 1000000 (0 : Int32) y3 hL3 ?_ ?_ _ _ _ hP hS (lv_sub hl [1, 2, 3, 4, 0] rfl)
  · intro  ey H locs ls hP hS hl
    subst ey
    replace hF := xo_elL hF
    refine lv_iconst (v := (1 : Int32)) hx hb d_Mod_isDirection_30 (by decide) ?_
    have q9 := Option.some.inj hF
    subst q9
    exact hret 31 _ _ _ d_Mod_isDirection_31 rfl hP hS
  · intro  ey H locs ls hP hS hl
    subst ey
    replace hF := xo_elR hF
    refine lv_iconst (v := (0 : Int32)) hx hb d_Mod_isDirection_38 (by decide) ?_
    have q9 := Option.some.inj hF
    subst q9
    exact hret 39 _ _ _ d_Mod_isDirection_39 rfl hP hS
set_option maxHeartbeats 4000000 in
set_option maxRecDepth 100000 in
theorem c_Mod_statement (l : Launch) (D : va_G) (cI cZ : ClassId) (ad : Nat → Nat) (A : Nat → Prop) (adK adV : Nat → Nat) (hDw : ∀ st : XS, va_D A (xw_M ad cI cZ st)) (x1 : Int32) (st : XS) (r9 : Int32) (st9 : XS) (hF : F_Mod_statement x1 st = some (r9, st9)) : K_I l D cI cZ A adK adV (xw_M ad cI cZ) y_Mod_statement b_Mod_statement 3 (some .int) 4 91 [.ref (ad 0), .int x1] st r9 st9 := by
  refine xk_startI (by decide) .int rfl (Nat.le_of_ble_eq_true rfl) ?_
  intro p e s m args below meth c Q ls hx hb hml hown hts hK hE hP hS hl hret
  replace hown : s.vm.findClass R_Mod = some m.cls := hown
  replace hl : lv_has ls 3 [(0, .ref (ad 0)), (1, .int x1)] := hl
  unfold F_Mod_statement at hF
  have mg239 : ∀ (x2 : Int32) (xs : XS), F_Mod_statement_m239 x2 xs = some (r9, st9) → ∀ (H : Heap) (locs : List Loc) (ls : Array Slot), va_P D classes (xw_M ad cI cZ xs) H → va_S A s.heap H locs → lv_has ls 3 [(0, .ref (ad 0)), (2, .int x2)] → W p l e (xk_rm 4 91) s m args below meth c H locs 0 0 Q (F0 m 239 ls []) := by
    intro x2 xs hF H locs ls hP hS hl
    unfold F_Mod_statement_m239 at hF
    refine lv_aload_n hx hb d_Mod_statement_239 rfl (lv_at hl 0 rfl) ?_
    refine lv_aload_n hx hb d_Mod_statement_240 rfl (lv_at hl 0 rfl) ?_
    refine xk_get (C := R_Mod) (T := F_Mod) (N := 23) hx hb hts i_Mod hown hK hP 0 xw_M_at_0 rfl 11 (by decide) u_677 rfl d_Mod_statement_241 ?_
    refine lv_iconst (v := (0 : Int32)) hx hb d_Mod_statement_244 (by decide) ?_
    obtain ⟨v1, h_v1, hF⟩ := xo_ob hF
    refine xk_iald hx hb hK hP 8 xw_M_at_11 h_v1 d_Mod_statement_245 ?_
    refine lv_aload_n hx hb d_Mod_statement_246 rfl (lv_at hl 0 rfl) ?_
    refine xk_get (C := R_Mod) (T := F_Mod) (N := 23) hx hb hts i_Mod hown hK hP 0 xw_M_at_0 rfl 11 (by decide) u_677 rfl d_Mod_statement_247 ?_
    refine lv_iconst (v := (1 : Int32)) hx hb d_Mod_statement_250 (by decide) ?_
    obtain ⟨v2, h_v2, hF⟩ := xo_ob hF
    refine xk_iald hx hb hK hP 8 xw_M_at_11 h_v2 d_Mod_statement_251 ?_
    refine lv_aload_n hx hb d_Mod_statement_252 rfl (lv_at hl 0 rfl) ?_
    refine xk_get (C := R_Mod) (T := F_Mod) (N := 23) hx hb hts i_Mod hown hK hP 0 xw_M_at_0 rfl 0 (by decide) u_666 rfl d_Mod_statement_253 ?_
    obtain ⟨v3, h_v3, hF⟩ := xo_ob hF
    refine xk_goI (xk_runV (As := [.int v1, .int v2, .int (xs.1 0 0)]) (rest := []) hx hb hml hown hts hK hE (fun _ h => h) hP hS ok_Mod_isDirection in_Mod_isDirection u_770 (c_Mod_isDirection l D cI cZ ad A adK adV hDw v1 v2 (xs.1 0 0) xs v3 h_v3) (va_recv hK hP (ci := 4) (q0 := 0) rfl xw_M_at_0) (by decide) rfl hl.1 rfl (Nat.le_of_ble_eq_true rfl) d_Mod_statement_256 ⟨Nat.le_refl _, Nat.le_refl _⟩) (fun _ h => h) hS (fun H locs hP hS => ?_)
    refine lv_if_ne (tgt := 271) hx hb d_Mod_statement_259 (by decide) (fun c_236 => ?_) (fun c_236 => ?_)
    · replace hF := xo_if_f c_236 hF
      refine lv_iconst (v := (0 : Int32)) hx hb d_Mod_statement_271 (by decide) ?_
      obtain ⟨q8, q9⟩ := xo_s2 hF
      subst q8
      subst q9
      exact hret 272 _ _ _ d_Mod_statement_272 rfl hP hS
    · replace hF := xo_if_t c_236 hF
      refine lv_aload_n hx hb d_Mod_statement_262 rfl (lv_at hl 0 rfl) ?_
      refine xk_get (C := R_Mod) (T := F_Mod) (N := 23) hx hb hts i_Mod hown hK hP 0 xw_M_at_0 rfl 0 (by decide) u_666 rfl d_Mod_statement_263 ?_
      refine lv_bipush (v := (6 : Int32)) hx hb d_Mod_statement_266 (by decide) ?_
      refine lv_icmp_ne (tgt := 273) hx hb d_Mod_statement_268 (by decide) (fun c_237 => ?_) (fun c_237 => ?_)
      · replace hF := xo_if_f c_237 hF
        refine lv_aload_n hx hb d_Mod_statement_273 rfl (lv_at hl 0 rfl) ?_
        refine xk_get (C := R_Mod) (T := F_Mod) (N := 23) hx hb hts i_Mod hown hK hP 0 xw_M_at_0 rfl 1 (by decide) u_667 rfl d_Mod_statement_274 ?_
        refine lv_aload_n hx hb d_Mod_statement_277 rfl (lv_at hl 0 rfl) ?_
        refine xk_get (C := R_Mod) (T := F_Mod) (N := 23) hx hb hts i_Mod hown hK hP 0 xw_M_at_0 rfl 0 (by decide) u_666 rfl d_Mod_statement_278 ?_
        refine lv_iload_n hx hb d_Mod_statement_281 rfl (lv_at hl 1 rfl) ?_
        obtain ⟨_, h_t4, hF⟩ := xo_ob hF
        obtain ⟨t4, e_t4, hF⟩ := xo_nm_e hF
        refine xk_iast hx hb hK hP (hDw _) hS 1 xw_M_at_1 h_t4 (xw_M_set_1 _) d_Mod_statement_282 (fun H locs hP hS => ?_)
        replace hP : va_P D classes (xw_M ad cI cZ t4) H := by rw [e_t4]; exact hP
        clear e_t4
        refine lv_aload_n hx hb d_Mod_statement_283 rfl (lv_at hl 0 rfl) ?_
        refine xk_get (C := R_Mod) (T := F_Mod) (N := 23) hx hb hts i_Mod hown hK hP 0 xw_M_at_0 rfl 2 (by decide) u_668 rfl d_Mod_statement_284 ?_
        refine lv_aload_n hx hb d_Mod_statement_287 rfl (lv_at hl 0 rfl) ?_
        refine xk_get (C := R_Mod) (T := F_Mod) (N := 23) hx hb hts i_Mod hown hK hP 0 xw_M_at_0 rfl 0 (by decide) u_666 rfl d_Mod_statement_288 ?_
        refine lv_aload_n hx hb d_Mod_statement_291 rfl (lv_at hl 0 rfl) ?_
        refine xk_get (C := R_Mod) (T := F_Mod) (N := 23) hx hb hts i_Mod hown hK hP 0 xw_M_at_0 rfl 11 (by decide) u_677 rfl d_Mod_statement_292 ?_
        refine lv_iconst (v := (0 : Int32)) hx hb d_Mod_statement_295 (by decide) ?_
        obtain ⟨v5, h_v5, hF⟩ := xo_ob hF
        refine xk_iald hx hb hK hP 8 xw_M_at_11 h_v5 d_Mod_statement_296 ?_
        obtain ⟨_, h_t6, hF⟩ := xo_ob hF
        obtain ⟨t6, e_t6, hF⟩ := xo_nm_e hF
        refine xk_iast hx hb hK hP (hDw _) hS 2 xw_M_at_2 h_t6 (xw_M_set_2 _) d_Mod_statement_297 (fun H locs hP hS => ?_)
        replace hP : va_P D classes (xw_M ad cI cZ t6) H := by rw [e_t6]; exact hP
        clear e_t6
        refine lv_aload_n hx hb d_Mod_statement_298 rfl (lv_at hl 0 rfl) ?_
        refine xk_get (C := R_Mod) (T := F_Mod) (N := 23) hx hb hts i_Mod hown hK hP 0 xw_M_at_0 rfl 3 (by decide) u_669 rfl d_Mod_statement_299 ?_
        refine lv_aload_n hx hb d_Mod_statement_302 rfl (lv_at hl 0 rfl) ?_
        refine xk_get (C := R_Mod) (T := F_Mod) (N := 23) hx hb hts i_Mod hown hK hP 0 xw_M_at_0 rfl 0 (by decide) u_666 rfl d_Mod_statement_303 ?_
        refine lv_aload_n hx hb d_Mod_statement_306 rfl (lv_at hl 0 rfl) ?_
        refine xk_get (C := R_Mod) (T := F_Mod) (N := 23) hx hb hts i_Mod hown hK hP 0 xw_M_at_0 rfl 11 (by decide) u_677 rfl d_Mod_statement_307 ?_
        refine lv_iconst (v := (1 : Int32)) hx hb d_Mod_statement_310 (by decide) ?_
        obtain ⟨v7, h_v7, hF⟩ := xo_ob hF
        refine xk_iald hx hb hK hP 8 xw_M_at_11 h_v7 d_Mod_statement_311 ?_
        obtain ⟨_, h_t8, hF⟩ := xo_ob hF
        obtain ⟨t8, e_t8, hF⟩ := xo_nm_e hF
        refine xk_iast hx hb hK hP (hDw _) hS 3 xw_M_at_3 h_t8 (xw_M_set_3 _) d_Mod_statement_312 (fun H locs hP hS => ?_)
        replace hP : va_P D classes (xw_M ad cI cZ t8) H := by rw [e_t8]; exact hP
        clear e_t8
        refine lv_aload_n hx hb d_Mod_statement_313 rfl (lv_at hl 0 rfl) ?_
        refine xk_get (C := R_Mod) (T := F_Mod) (N := 23) hx hb hts i_Mod hown hK hP 0 xw_M_at_0 rfl 4 (by decide) u_670 rfl d_Mod_statement_314 ?_
        refine lv_aload_n hx hb d_Mod_statement_317 rfl (lv_at hl 0 rfl) ?_
        refine lv_dup hx hb d_Mod_statement_318 rfl ?_
        refine xk_get (C := R_Mod) (T := F_Mod) (N := 23) hx hb hts i_Mod hown hK hP 0 xw_M_at_0 rfl 0 (by decide) u_666 rfl d_Mod_statement_319 ?_
        refine lv_dup_x1 hx hb d_Mod_statement_322 rfl rfl ?_
        refine lv_iconst (v := (1 : Int32)) hx hb d_Mod_statement_323 (by decide) ?_
        refine lv_iadd hx hb d_Mod_statement_324 ?_
        obtain ⟨t9, e_t9, hF⟩ := xo_nm_e hF
        refine xk_put (C := R_Mod) (T := F_Mod) (N := 23) (ty := .int) hx hb hts i_Mod t_Mod t_Mod_ok n_Mod hown hK hP (hDw _) hS 0 xw_M_at_0 rfl 0 (by decide) u_666 rfl (by decide +kernel) rfl rfl (Nat.le_of_ble_eq_true rfl) (xw_M_put_0_0 _) d_Mod_statement_325 (fun H locs hP hS => ?_)
        replace hP : va_P D classes (xw_M ad cI cZ t9) H := by rw [e_t9]; exact hP
        clear e_t9
        refine lv_aload_n hx hb d_Mod_statement_328 rfl (lv_at hl 0 rfl) ?_
        refine xk_get (C := R_Mod) (T := F_Mod) (N := 23) hx hb hts i_Mod hown hK hP 0 xw_M_at_0 rfl 11 (by decide) u_677 rfl d_Mod_statement_329 ?_
        refine lv_iconst (v := (2 : Int32)) hx hb d_Mod_statement_332 (by decide) ?_
        obtain ⟨v10, h_v10, hF⟩ := xo_ob hF
        refine xk_iald hx hb hK hP 8 xw_M_at_11 h_v10 d_Mod_statement_333 ?_
        obtain ⟨_, h_t11, hF⟩ := xo_ob hF
        obtain ⟨t11, e_t11, hF⟩ := xo_nm_e hF
        refine xk_iast hx hb hK hP (hDw _) hS 4 xw_M_at_4 h_t11 (xw_M_set_4 _) d_Mod_statement_334 (fun H locs hP hS => ?_)
        replace hP : va_P D classes (xw_M ad cI cZ t11) H := by rw [e_t11]; exact hP
        clear e_t11
        refine lv_iconst (v := (1 : Int32)) hx hb d_Mod_statement_335 (by decide) ?_
        obtain ⟨q8, q9⟩ := xo_s2 hF
        subst q8
        subst q9
        exact hret 336 _ _ _ d_Mod_statement_336 rfl hP hS
      · replace hF := xo_if_t c_237 hF
        refine lv_iconst (v := (0 : Int32)) hx hb d_Mod_statement_271 (by decide) ?_
        obtain ⟨q8, q9⟩ := xo_s2 hF
        subst q8
        subst q9
        exact hret 272 _ _ _ d_Mod_statement_272 rfl hP hS
  have mg169 : ∀ (x1 : Int32) (k0 : Int32) (xs : XS), F_Mod_statement_m169 x1 k0 xs = some (r9, st9) → ∀ (H : Heap) (locs : List Loc) (ls : Array Slot), va_P D classes (xw_M ad cI cZ xs) H → va_S A s.heap H locs → lv_has ls 3 [(0, .ref (ad 0)), (1, .int x1)] → W p l e (xk_rm 4 91) s m args below meth c H locs 0 0 Q (F0 m 169 ls [.int k0]) := by
    intro x1 k0 xs hF H locs ls hP hS hl
    unfold F_Mod_statement_m169 at hF
    refine lv_istore_n (lv' := [(2, .int k0), (0, .ref (ad 0)), (1, .int x1)]) hx hb d_Mod_statement_169 rfl hl (by decide) rfl (fun ls hl => ?_)
    refine lv_iload_n hx hb d_Mod_statement_170 rfl (lv_at hl 0 rfl) ?_
    refine lv_if_ge (tgt := 176) hx hb d_Mod_statement_171 (by decide) (fun c_238 => ?_) (fun c_238 => ?_)
    · replace hF := xo_if_t c_238 hF
      refine lv_aload_n hx hb d_Mod_statement_176 rfl (lv_at hl 1 rfl) ?_
      refine lv_dup hx hb d_Mod_statement_177 rfl ?_
      refine xk_get (C := R_Mod) (T := F_Mod) (N := 23) hx hb hts i_Mod hown hK hP 0 xw_M_at_0 rfl 10 (by decide) u_676 rfl d_Mod_statement_178 ?_
      refine lv_iconst (v := (1 : Int32)) hx hb d_Mod_statement_181 (by decide) ?_
      refine lv_iadd hx hb d_Mod_statement_182 ?_
      obtain ⟨t12, e_t12, hF⟩ := xo_nm_e hF
      refine xk_put (C := R_Mod) (T := F_Mod) (N := 23) (ty := .int) hx hb hts i_Mod t_Mod t_Mod_ok n_Mod hown hK hP (hDw _) hS 0 xw_M_at_0 rfl 10 (by decide) u_676 rfl (by decide +kernel) rfl rfl (Nat.le_of_ble_eq_true rfl) (xw_M_put_0_10 _) d_Mod_statement_183 (fun H locs hP hS => ?_)
      replace hP : va_P D classes (xw_M ad cI cZ t12) H := by rw [e_t12]; exact hP
      clear e_t12
      refine lv_aload_n hx hb d_Mod_statement_186 rfl (lv_at hl 1 rfl) ?_
      refine lv_iconst (v := (0 : Int32)) hx hb d_Mod_statement_187 (by decide) ?_
      refine lv_iconst (v := (0 : Int32)) hx hb d_Mod_statement_188 (by decide) ?_
      obtain ⟨v13, t14, h_v13, hF⟩ := xo_ob2 hF
      refine xk_goI (xk_runV (As := [.int (0 : Int32), .int (0 : Int32)]) (rest := []) hx hb hml hown hts hK hE (fun _ h => h) hP hS ok_Mod_number in_Mod_number u_757 (c_Mod_number l D cI cZ ad A adK adV hDw (0 : Int32) (0 : Int32) t12 v13 t14 h_v13) (va_recv hK hP (ci := 4) (q0 := 0) rfl xw_M_at_0) (by decide) rfl hl.1 rfl (Nat.le_of_ble_eq_true rfl) d_Mod_statement_189 ⟨Nat.le_refl _, Nat.le_refl _⟩) (fun _ h => h) hS (fun H locs hP hS => ?_)
      refine lv_if_eq (tgt := 213) hx hb d_Mod_statement_192 (by decide) (fun c_239 => ?_) (fun c_239 => ?_)
      · replace hF := xo_if_t c_239 hF
        refine lv_iconst (v := (-1 : Int32)) hx hb d_Mod_statement_213 (by decide) ?_
        obtain ⟨q8, q9⟩ := xo_s2 hF
        subst q8
        subst q9
        exact hret 214 _ _ _ d_Mod_statement_214 rfl hP hS
      · replace hF := xo_if_f c_239 hF
        refine lv_aload_n hx hb d_Mod_statement_195 rfl (lv_at hl 1 rfl) ?_
        refine lv_iconst (v := (1 : Int32)) hx hb d_Mod_statement_196 (by decide) ?_
        refine lv_iconst (v := (0 : Int32)) hx hb d_Mod_statement_197 (by decide) ?_
        obtain ⟨v15, t16, h_v15, hF⟩ := xo_ob2 hF
        refine xk_goI (xk_runV (As := [.int (1 : Int32), .int (0 : Int32)]) (rest := []) hx hb hml hown hts hK hE (fun _ h => h) hP hS ok_Mod_number in_Mod_number u_757 (c_Mod_number l D cI cZ ad A adK adV hDw (1 : Int32) (0 : Int32) t14 v15 t16 h_v15) (va_recv hK hP (ci := 4) (q0 := 0) rfl xw_M_at_0) (by decide) rfl hl.1 rfl (Nat.le_of_ble_eq_true rfl) d_Mod_statement_198 ⟨Nat.le_refl _, Nat.le_refl _⟩) (fun _ h => h) hS (fun H locs hP hS => ?_)
        refine lv_if_eq (tgt := 213) hx hb d_Mod_statement_201 (by decide) (fun c_240 => ?_) (fun c_240 => ?_)
        · replace hF := xo_if_t c_240 hF
          refine lv_iconst (v := (-1 : Int32)) hx hb d_Mod_statement_213 (by decide) ?_
          obtain ⟨q8, q9⟩ := xo_s2 hF
          subst q8
          subst q9
          exact hret 214 _ _ _ d_Mod_statement_214 rfl hP hS
        · replace hF := xo_if_f c_240 hF
          refine lv_aload_n hx hb d_Mod_statement_204 rfl (lv_at hl 1 rfl) ?_
          refine lv_iconst (v := (2 : Int32)) hx hb d_Mod_statement_205 (by decide) ?_
          refine lv_iconst (v := (1 : Int32)) hx hb d_Mod_statement_206 (by decide) ?_
          obtain ⟨v17, t18, h_v17, hF⟩ := xo_ob2 hF
          refine xk_goI (xk_runV (As := [.int (2 : Int32), .int (1 : Int32)]) (rest := []) hx hb hml hown hts hK hE (fun _ h => h) hP hS ok_Mod_number in_Mod_number u_757 (c_Mod_number l D cI cZ ad A adK adV hDw (2 : Int32) (1 : Int32) t16 v17 t18 h_v17) (va_recv hK hP (ci := 4) (q0 := 0) rfl xw_M_at_0) (by decide) rfl hl.1 rfl (Nat.le_of_ble_eq_true rfl) d_Mod_statement_207 ⟨Nat.le_refl _, Nat.le_refl _⟩) (fun _ h => h) hS (fun H locs hP hS => ?_)
          refine lv_if_ne (tgt := 215) hx hb d_Mod_statement_210 (by decide) (fun c_241 => ?_) (fun c_241 => ?_)
          · replace hF := xo_if_f c_241 hF
            refine lv_iload_n hx hb d_Mod_statement_215 rfl (lv_at hl 2 rfl) ?_
            refine lv_if_ne (tgt := 221) hx hb d_Mod_statement_216 (by decide) (fun c_242 => ?_) (fun c_242 => ?_)
            · replace hF := xo_if_f c_242 hF
              refine lv_aload_n hx hb d_Mod_statement_221 rfl (lv_at hl 1 rfl) ?_
              refine xk_get (C := R_Mod) (T := F_Mod) (N := 23) hx hb hts i_Mod hown hK hP 0 xw_M_at_0 rfl 11 (by decide) u_677 rfl d_Mod_statement_222 ?_
              refine lv_iconst (v := (0 : Int32)) hx hb d_Mod_statement_225 (by decide) ?_
              obtain ⟨v19, h_v19, hF⟩ := xo_ob hF
              refine xk_iald hx hb hK hP 8 xw_M_at_11 h_v19 d_Mod_statement_226 ?_
              refine lv_if_ne (tgt := 239) hx hb d_Mod_statement_227 (by decide) (fun c_243 => ?_) (fun c_243 => ?_)
              · replace hF := xo_if_f c_243 hF
                exact mg239 _ _ hF _ _ _ hP hS (lv_sub hl [1, 0] rfl)
              · replace hF := xo_if_t c_243 hF
                refine lv_aload_n hx hb d_Mod_statement_230 rfl (lv_at hl 1 rfl) ?_
                refine xk_get (C := R_Mod) (T := F_Mod) (N := 23) hx hb hts i_Mod hown hK hP 0 xw_M_at_0 rfl 11 (by decide) u_677 rfl d_Mod_statement_231 ?_
                refine lv_iconst (v := (1 : Int32)) hx hb d_Mod_statement_234 (by decide) ?_
                obtain ⟨v20, h_v20, hF⟩ := xo_ob hF
                refine xk_iald hx hb hK hP 8 xw_M_at_11 h_v20 d_Mod_statement_235 ?_
                refine lv_if_eq (tgt := 271) hx hb d_Mod_statement_236 (by decide) (fun c_244 => ?_) (fun c_244 => ?_)
                · replace hF := xo_if_t c_244 hF
                  refine lv_iconst (v := (0 : Int32)) hx hb d_Mod_statement_271 (by decide) ?_
                  obtain ⟨q8, q9⟩ := xo_s2 hF
                  subst q8
                  subst q9
                  exact hret 272 _ _ _ d_Mod_statement_272 rfl hP hS
                · replace hF := xo_if_f c_244 hF
                  exact mg239 _ _ hF _ _ _ hP hS (lv_sub hl [1, 0] rfl)
            · replace hF := xo_if_t c_242 hF
              refine lv_iconst (v := (1 : Int32)) hx hb d_Mod_statement_219 (by decide) ?_
              obtain ⟨q8, q9⟩ := xo_s2 hF
              subst q8
              subst q9
              exact hret 220 _ _ _ d_Mod_statement_220 rfl hP hS
          · replace hF := xo_if_t c_241 hF
            refine lv_iconst (v := (-1 : Int32)) hx hb d_Mod_statement_213 (by decide) ?_
            obtain ⟨q8, q9⟩ := xo_s2 hF
            subst q8
            subst q9
            exact hret 214 _ _ _ d_Mod_statement_214 rfl hP hS
    · replace hF := xo_if_f c_238 hF
      refine lv_iconst (v := (-1 : Int32)) hx hb d_Mod_statement_174 (by decide) ?_
      obtain ⟨q8, q9⟩ := xo_s2 hF
      subst q8
      subst q9
      exact hret 175 _ _ _ d_Mod_statement_175 rfl hP hS
  have mg168 : ∀ (x1 : Int32) (xs : XS), F_Mod_statement_m168 x1 xs = some (r9, st9) → ∀ (H : Heap) (locs : List Loc) (ls : Array Slot), va_P D classes (xw_M ad cI cZ xs) H → va_S A s.heap H locs → lv_has ls 3 [(0, .ref (ad 0)), (1, .int x1)] → W p l e (xk_rm 4 91) s m args below meth c H locs 0 0 Q (F0 m 168 ls []) := by
    intro x1 xs hF H locs ls hP hS hl
    unfold F_Mod_statement_m168 at hF
    refine lv_iconst (v := (-1 : Int32)) hx hb d_Mod_statement_168 (by decide) ?_
    exact mg169 _ _ _ hF _ _ _ hP hS (lv_sub hl [0, 1] rfl)
  refine lv_aload_n hx hb d_Mod_statement_0 rfl (lv_at hl 0 rfl) ?_
  refine lv_bipush (v := (112 : Int32)) hx hb d_Mod_statement_1 (by decide) ?_
  obtain ⟨v21, t22, h_v21, hF⟩ := xo_ob2 hF
  refine xk_goI (xk_runV (As := [.int (112 : Int32)]) (rest := []) hx hb hml hown hts hK hE (fun _ h => h) hP hS ok_Mod_is in_Mod_is u_753 (c_Mod_is l D cI cZ ad A adK adV hDw (112 : Int32) st v21 t22 h_v21) (va_recv hK hP (ci := 4) (q0 := 0) rfl xw_M_at_0) (by decide) rfl hl.1 rfl (Nat.le_of_ble_eq_true rfl) d_Mod_statement_3 ⟨Nat.le_refl _, Nat.le_refl _⟩) (fun _ h => h) hS (fun H locs hP hS => ?_)
  refine lv_if_eq (tgt := 117) hx hb d_Mod_statement_6 (by decide) (fun c_245 => ?_) (fun c_245 => ?_)
  · replace hF := xo_if_t c_245 hF
    refine lv_aload_n hx hb d_Mod_statement_117 rfl (lv_at hl 0 rfl) ?_
    refine lv_bipush (v := (115 : Int32)) hx hb d_Mod_statement_118 (by decide) ?_
    obtain ⟨v23, t24, h_v23, hF⟩ := xo_ob2 hF
    refine xk_goI (xk_runV (As := [.int (115 : Int32)]) (rest := []) hx hb hml hown hts hK hE (fun _ h => h) hP hS ok_Mod_is in_Mod_is u_753 (c_Mod_is l D cI cZ ad A adK adV hDw (115 : Int32) t22 v23 t24 h_v23) (va_recv hK hP (ci := 4) (q0 := 0) rfl xw_M_at_0) (by decide) rfl hl.1 rfl (Nat.le_of_ble_eq_true rfl) d_Mod_statement_120 ⟨Nat.le_refl _, Nat.le_refl _⟩) (fun _ h => h) hS (fun H locs hP hS => ?_)
    refine lv_if_ne (tgt := 128) hx hb d_Mod_statement_123 (by decide) (fun c_246 => ?_) (fun c_246 => ?_)
    · replace hF := xo_if_f c_246 hF
      refine lv_aload_n hx hb d_Mod_statement_128 rfl (lv_at hl 0 rfl) ?_
      refine xk_get (C := R_Mod) (T := F_Mod) (N := 23) hx hb hts i_Mod hown hK hP 0 xw_M_at_0 rfl 10 (by decide) u_676 rfl d_Mod_statement_129 ?_
      refine lv_aload_n hx hb d_Mod_statement_132 rfl (lv_at hl 0 rfl) ?_
      refine xk_get (C := R_Mod) (T := F_Mod) (N := 23) hx hb hts i_Mod hown hK hP 0 xw_M_at_0 rfl 8 (by decide) u_674 rfl d_Mod_statement_133 ?_
      refine lv_icmp_ge (tgt := 168) hx hb d_Mod_statement_136 (by decide) (fun c_247 => ?_) (fun c_247 => ?_)
      · replace hF := xo_if_t c_247 hF
        exact mg168 _ _ hF _ _ _ hP hS (lv_sub hl [0, 1] rfl)
      · replace hF := xo_if_f c_247 hF
        refine lv_aload_n hx hb d_Mod_statement_139 rfl (lv_at hl 0 rfl) ?_
        refine xk_get (C := R_Mod) (T := F_Mod) (N := 23) hx hb hts i_Mod hown hK hP 0 xw_M_at_0 rfl 9 (by decide) u_675 rfl d_Mod_statement_140 ?_
        refine lv_aload_n hx hb d_Mod_statement_143 rfl (lv_at hl 0 rfl) ?_
        refine xk_get (C := R_Mod) (T := F_Mod) (N := 23) hx hb hts i_Mod hown hK hP 0 xw_M_at_0 rfl 10 (by decide) u_676 rfl d_Mod_statement_144 ?_
        obtain ⟨v25, h_v25, hF⟩ := xo_ob hF
        refine xk_iald hx hb hK hP 7 xw_M_at_9 h_v25 d_Mod_statement_147 ?_
        refine lv_if_le (tgt := 168) hx hb d_Mod_statement_148 (by decide) (fun c_248 => ?_) (fun c_248 => ?_)
        · replace hF := xo_if_t c_248 hF
          exact mg168 _ _ hF _ _ _ hP hS (lv_sub hl [0, 1] rfl)
        · replace hF := xo_if_f c_248 hF
          refine va_ldcS hx hb hown hE.2.2.2.1 d_Mod_statement_151 ?_
          refine lv_aload_n hx hb d_Mod_statement_153 rfl (lv_at hl 0 rfl) ?_
          refine xk_get (C := R_Mod) (T := F_Mod) (N := 23) hx hb hts i_Mod hown hK hP 0 xw_M_at_0 rfl 9 (by decide) u_675 rfl d_Mod_statement_154 ?_
          refine lv_aload_n hx hb d_Mod_statement_157 rfl (lv_at hl 0 rfl) ?_
          refine xk_get (C := R_Mod) (T := F_Mod) (N := 23) hx hb hts i_Mod hown hK hP 0 xw_M_at_0 rfl 10 (by decide) u_676 rfl d_Mod_statement_158 ?_
          obtain ⟨v26, h_v26, hF⟩ := xo_ob hF
          refine xk_iald hx hb hK hP 7 xw_M_at_9 h_v26 d_Mod_statement_161 ?_
          obtain ⟨v27, h_v27, hF⟩ := xo_ob hF
          refine xk_goI (xk_runV (As := [.int v26]) (rest := []) hx hb hml hown hts hK hE (fun _ h => h) hP hS ok_Str_indexOf1 in_Str_indexOf1 u_769 (c_Str_indexOf1 l D cI cZ (xw_M ad cI cZ) A adK adV v26 t24 v27 h_v27) (vk_recv hE.2.1 (by decide) hS) (by decide) rfl hl.1 rfl (Nat.le_of_ble_eq_true rfl) d_Mod_statement_162 ⟨Nat.le_refl _, Nat.le_refl _⟩) (fun _ h => h) hS (fun H locs hP hS => ?_)
          refine lv_goto (tgt := 169) hx hb d_Mod_statement_165 (by decide) ?_
          exact mg169 _ _ _ hF _ _ _ hP hS (lv_sub hl [0, 1] rfl)
    · replace hF := xo_if_t c_246 hF
      refine lv_iconst (v := (-1 : Int32)) hx hb d_Mod_statement_126 (by decide) ?_
      obtain ⟨q8, q9⟩ := xo_s2 hF
      subst q8
      subst q9
      exact hret 127 _ _ _ d_Mod_statement_127 rfl hP hS
  · replace hF := xo_if_f c_245 hF
    refine lv_aload_n hx hb d_Mod_statement_9 rfl (lv_at hl 0 rfl) ?_
    refine lv_iconst (v := (0 : Int32)) hx hb d_Mod_statement_10 (by decide) ?_
    refine lv_iconst (v := (1 : Int32)) hx hb d_Mod_statement_11 (by decide) ?_
    obtain ⟨v28, t29, h_v28, hF⟩ := xo_ob2 hF
    refine xk_goI (xk_runV (As := [.int (0 : Int32), .int (1 : Int32)]) (rest := []) hx hb hml hown hts hK hE (fun _ h => h) hP hS ok_Mod_number in_Mod_number u_757 (c_Mod_number l D cI cZ ad A adK adV hDw (0 : Int32) (1 : Int32) t22 v28 t29 h_v28) (va_recv hK hP (ci := 4) (q0 := 0) rfl xw_M_at_0) (by decide) rfl hl.1 rfl (Nat.le_of_ble_eq_true rfl) d_Mod_statement_12 ⟨Nat.le_refl _, Nat.le_refl _⟩) (fun _ h => h) hS (fun H locs hP hS => ?_)
    refine lv_if_eq (tgt := 27) hx hb d_Mod_statement_15 (by decide) (fun c_249 => ?_) (fun c_249 => ?_)
    · replace hF := xo_if_t c_249 hF
      refine lv_iconst (v := (-1 : Int32)) hx hb d_Mod_statement_27 (by decide) ?_
      obtain ⟨q8, q9⟩ := xo_s2 hF
      subst q8
      subst q9
      exact hret 28 _ _ _ d_Mod_statement_28 rfl hP hS
    · replace hF := xo_if_f c_249 hF
      refine lv_aload_n hx hb d_Mod_statement_18 rfl (lv_at hl 0 rfl) ?_
      refine lv_iconst (v := (1 : Int32)) hx hb d_Mod_statement_19 (by decide) ?_
      refine lv_iconst (v := (1 : Int32)) hx hb d_Mod_statement_20 (by decide) ?_
      obtain ⟨v30, t31, h_v30, hF⟩ := xo_ob2 hF
      refine xk_goI (xk_runV (As := [.int (1 : Int32), .int (1 : Int32)]) (rest := []) hx hb hml hown hts hK hE (fun _ h => h) hP hS ok_Mod_number in_Mod_number u_757 (c_Mod_number l D cI cZ ad A adK adV hDw (1 : Int32) (1 : Int32) t29 v30 t31 h_v30) (va_recv hK hP (ci := 4) (q0 := 0) rfl xw_M_at_0) (by decide) rfl hl.1 rfl (Nat.le_of_ble_eq_true rfl) d_Mod_statement_21 ⟨Nat.le_refl _, Nat.le_refl _⟩) (fun _ h => h) hS (fun H locs hP hS => ?_)
      refine lv_if_ne (tgt := 29) hx hb d_Mod_statement_24 (by decide) (fun c_250 => ?_) (fun c_250 => ?_)
      · replace hF := xo_if_f c_250 hF
        refine lv_iload_n hx hb d_Mod_statement_29 rfl (lv_at hl 1 rfl) ?_
        refine lv_if_ne (tgt := 35) hx hb d_Mod_statement_30 (by decide) (fun c_251 => ?_) (fun c_251 => ?_)
        · replace hF := xo_if_f c_251 hF
          refine lv_aload_n hx hb d_Mod_statement_35 rfl (lv_at hl 0 rfl) ?_
          refine xk_get (C := R_Mod) (T := F_Mod) (N := 23) hx hb hts i_Mod hown hK hP 0 xw_M_at_0 rfl 11 (by decide) u_677 rfl d_Mod_statement_36 ?_
          refine lv_iconst (v := (0 : Int32)) hx hb d_Mod_statement_39 (by decide) ?_
          obtain ⟨v32, h_v32, hF⟩ := xo_ob hF
          refine xk_iald hx hb hK hP 8 xw_M_at_11 h_v32 d_Mod_statement_40 ?_
          refine lv_bipush (v := (-20 : Int32)) hx hb d_Mod_statement_41 (by decide) ?_
          refine lv_bipush (v := (20 : Int32)) hx hb d_Mod_statement_43 (by decide) ?_
          obtain ⟨v33, h_v33, hF⟩ := xo_ob hF
          refine xk_goI (xk_runS (As := [.int v32, .int (-20 : Int32), .int (20 : Int32)]) (rest := []) hx hb hml hown hts hK hE (fun _ h => h) hP hS ok_Mod_within st_Mod_within u_765 (c_Mod_within l D cI cZ ad A adK adV hDw v32 (-20 : Int32) (20 : Int32) t31 v33 h_v33) (by decide) rfl hl.1 rfl (Nat.le_of_ble_eq_true rfl) d_Mod_statement_45 ⟨Nat.le_refl _, Nat.le_refl _⟩) (fun _ h => h) hS (fun H locs hP hS => ?_)
          refine lv_if_eq (tgt := 76) hx hb d_Mod_statement_48 (by decide) (fun c_252 => ?_) (fun c_252 => ?_)
          · replace hF := xo_if_t c_252 hF
            refine lv_iconst (v := (0 : Int32)) hx hb d_Mod_statement_76 (by decide) ?_
            obtain ⟨q8, q9⟩ := xo_s2 hF
            subst q8
            subst q9
            exact hret 77 _ _ _ d_Mod_statement_77 rfl hP hS
          · replace hF := xo_if_f c_252 hF
            refine lv_aload_n hx hb d_Mod_statement_51 rfl (lv_at hl 0 rfl) ?_
            refine xk_get (C := R_Mod) (T := F_Mod) (N := 23) hx hb hts i_Mod hown hK hP 0 xw_M_at_0 rfl 11 (by decide) u_677 rfl d_Mod_statement_52 ?_
            refine lv_iconst (v := (1 : Int32)) hx hb d_Mod_statement_55 (by decide) ?_
            obtain ⟨v34, h_v34, hF⟩ := xo_ob hF
            refine xk_iald hx hb hK hP 8 xw_M_at_11 h_v34 d_Mod_statement_56 ?_
            refine lv_bipush (v := (-20 : Int32)) hx hb d_Mod_statement_57 (by decide) ?_
            refine lv_bipush (v := (20 : Int32)) hx hb d_Mod_statement_59 (by decide) ?_
            obtain ⟨v35, h_v35, hF⟩ := xo_ob hF
            refine xk_goI (xk_runS (As := [.int v34, .int (-20 : Int32), .int (20 : Int32)]) (rest := []) hx hb hml hown hts hK hE (fun _ h => h) hP hS ok_Mod_within st_Mod_within u_765 (c_Mod_within l D cI cZ ad A adK adV hDw v34 (-20 : Int32) (20 : Int32) t31 v35 h_v35) (by decide) rfl hl.1 rfl (Nat.le_of_ble_eq_true rfl) d_Mod_statement_61 ⟨Nat.le_refl _, Nat.le_refl _⟩) (fun _ h => h) hS (fun H locs hP hS => ?_)
            refine lv_if_eq (tgt := 76) hx hb d_Mod_statement_64 (by decide) (fun c_253 => ?_) (fun c_253 => ?_)
            · replace hF := xo_if_t c_253 hF
              refine lv_iconst (v := (0 : Int32)) hx hb d_Mod_statement_76 (by decide) ?_
              obtain ⟨q8, q9⟩ := xo_s2 hF
              subst q8
              subst q9
              exact hret 77 _ _ _ d_Mod_statement_77 rfl hP hS
            · replace hF := xo_if_f c_253 hF
              refine lv_aload_n hx hb d_Mod_statement_67 rfl (lv_at hl 0 rfl) ?_
              refine xk_get (C := R_Mod) (T := F_Mod) (N := 23) hx hb hts i_Mod hown hK hP 0 xw_M_at_0 rfl 5 (by decide) u_671 rfl d_Mod_statement_68 ?_
              refine lv_bipush (v := (8 : Int32)) hx hb d_Mod_statement_71 (by decide) ?_
              refine lv_icmp_ne (tgt := 78) hx hb d_Mod_statement_73 (by decide) (fun c_254 => ?_) (fun c_254 => ?_)
              · replace hF := xo_if_f c_254 hF
                refine lv_aload_n hx hb d_Mod_statement_78 rfl (lv_at hl 0 rfl) ?_
                refine xk_get (C := R_Mod) (T := F_Mod) (N := 23) hx hb hts i_Mod hown hK hP 0 xw_M_at_0 rfl 6 (by decide) u_672 rfl d_Mod_statement_79 ?_
                refine lv_aload_n hx hb d_Mod_statement_82 rfl (lv_at hl 0 rfl) ?_
                refine xk_get (C := R_Mod) (T := F_Mod) (N := 23) hx hb hts i_Mod hown hK hP 0 xw_M_at_0 rfl 5 (by decide) u_671 rfl d_Mod_statement_83 ?_
                refine lv_aload_n hx hb d_Mod_statement_86 rfl (lv_at hl 0 rfl) ?_
                refine xk_get (C := R_Mod) (T := F_Mod) (N := 23) hx hb hts i_Mod hown hK hP 0 xw_M_at_0 rfl 11 (by decide) u_677 rfl d_Mod_statement_87 ?_
                refine lv_iconst (v := (0 : Int32)) hx hb d_Mod_statement_90 (by decide) ?_
                obtain ⟨v36, h_v36, hF⟩ := xo_ob hF
                refine xk_iald hx hb hK hP 8 xw_M_at_11 h_v36 d_Mod_statement_91 ?_
                obtain ⟨_, h_t37, hF⟩ := xo_ob hF
                obtain ⟨t37, e_t37, hF⟩ := xo_nm_e hF
                refine xk_iast hx hb hK hP (hDw _) hS 5 xw_M_at_6 h_t37 (xw_M_set_6 _) d_Mod_statement_92 (fun H locs hP hS => ?_)
                replace hP : va_P D classes (xw_M ad cI cZ t37) H := by rw [e_t37]; exact hP
                clear e_t37
                refine lv_aload_n hx hb d_Mod_statement_93 rfl (lv_at hl 0 rfl) ?_
                refine xk_get (C := R_Mod) (T := F_Mod) (N := 23) hx hb hts i_Mod hown hK hP 0 xw_M_at_0 rfl 7 (by decide) u_673 rfl d_Mod_statement_94 ?_
                refine lv_aload_n hx hb d_Mod_statement_97 rfl (lv_at hl 0 rfl) ?_
                refine lv_dup hx hb d_Mod_statement_98 rfl ?_
                refine xk_get (C := R_Mod) (T := F_Mod) (N := 23) hx hb hts i_Mod hown hK hP 0 xw_M_at_0 rfl 5 (by decide) u_671 rfl d_Mod_statement_99 ?_
                refine lv_dup_x1 hx hb d_Mod_statement_102 rfl rfl ?_
                refine lv_iconst (v := (1 : Int32)) hx hb d_Mod_statement_103 (by decide) ?_
                refine lv_iadd hx hb d_Mod_statement_104 ?_
                obtain ⟨t38, e_t38, hF⟩ := xo_nm_e hF
                refine xk_put (C := R_Mod) (T := F_Mod) (N := 23) (ty := .int) hx hb hts i_Mod t_Mod t_Mod_ok n_Mod hown hK hP (hDw _) hS 0 xw_M_at_0 rfl 5 (by decide) u_671 rfl (by decide +kernel) rfl rfl (Nat.le_of_ble_eq_true rfl) (xw_M_put_0_5 _) d_Mod_statement_105 (fun H locs hP hS => ?_)
                replace hP : va_P D classes (xw_M ad cI cZ t38) H := by rw [e_t38]; exact hP
                clear e_t38
                refine lv_aload_n hx hb d_Mod_statement_108 rfl (lv_at hl 0 rfl) ?_
                refine xk_get (C := R_Mod) (T := F_Mod) (N := 23) hx hb hts i_Mod hown hK hP 0 xw_M_at_0 rfl 11 (by decide) u_677 rfl d_Mod_statement_109 ?_
                refine lv_iconst (v := (1 : Int32)) hx hb d_Mod_statement_112 (by decide) ?_
                obtain ⟨v39, h_v39, hF⟩ := xo_ob hF
                refine xk_iald hx hb hK hP 8 xw_M_at_11 h_v39 d_Mod_statement_113 ?_
                obtain ⟨_, h_t40, hF⟩ := xo_ob hF
                obtain ⟨t40, e_t40, hF⟩ := xo_nm_e hF
                refine xk_iast hx hb hK hP (hDw _) hS 6 xw_M_at_7 h_t40 (xw_M_set_7 _) d_Mod_statement_114 (fun H locs hP hS => ?_)
                replace hP : va_P D classes (xw_M ad cI cZ t40) H := by rw [e_t40]; exact hP
                clear e_t40
                refine lv_iconst (v := (1 : Int32)) hx hb d_Mod_statement_115 (by decide) ?_
                obtain ⟨q8, q9⟩ := xo_s2 hF
                subst q8
                subst q9
                exact hret 116 _ _ _ d_Mod_statement_116 rfl hP hS
              · replace hF := xo_if_t c_254 hF
                refine lv_iconst (v := (0 : Int32)) hx hb d_Mod_statement_76 (by decide) ?_
                obtain ⟨q8, q9⟩ := xo_s2 hF
                subst q8
                subst q9
                exact hret 77 _ _ _ d_Mod_statement_77 rfl hP hS
        · replace hF := xo_if_t c_251 hF
          refine lv_iconst (v := (1 : Int32)) hx hb d_Mod_statement_33 (by decide) ?_
          obtain ⟨q8, q9⟩ := xo_s2 hF
          subst q8
          subst q9
          exact hret 34 _ _ _ d_Mod_statement_34 rfl hP hS
      · replace hF := xo_if_t c_250 hF
        refine lv_iconst (v := (-1 : Int32)) hx hb d_Mod_statement_27 (by decide) ?_
        obtain ⟨q8, q9⟩ := xo_s2 hF
        subst q8
        subst q9
        exact hret 28 _ _ _ d_Mod_statement_28 rfl hP hS
set_option maxHeartbeats 4000000 in
set_option maxRecDepth 100000 in
theorem c_Mod_keep (l : Launch) (D : va_G) (cI cZ : ClassId) (ad : Nat → Nat) (A : Nat → Prop) (adK adV : Nat → Nat) (hDw : ∀ st : XS, va_D A (xw_M ad cI cZ st)) (st : XS) (st9 : XS) (hF : F_Mod_keep  st = some st9) : K_V l D cI cZ A adK adV (xw_M ad cI cZ) y_Mod_keep b_Mod_keep 3 none 0 0 [.ref (ad 0), .ref (ad 17)] st st9 := by
  refine xk_startV (by decide) rfl (Nat.le_of_ble_eq_true rfl) ?_
  intro p e s m args below meth c Q ls hx hb hml hown hts hK hE hP hS hl hret
  replace hown : s.vm.findClass R_Mod = some m.cls := hown
  replace hl : lv_has ls 3 [(0, .ref (ad 0)), (1, .ref (ad 17))] := hl
  unfold F_Mod_keep at hF
  refine lv_iconst (v := (0 : Int32)) hx hb d_Mod_keep_0 (by decide) ?_
  refine lv_istore_n (lv' := [(2, .int (0 : Int32)), (0, .ref (ad 0)), (1, .ref (ad 17))]) hx hb d_Mod_keep_1 rfl hl (by decide) rfl (fun ls hl => ?_)
  have lp2 : ∀ (n : Nat) (w2_2 : Int32) (w2_s : XS) (y : XS), xo_lp (fun q : (Int32 × XS) => F_Mod_keep_b2 q.1 q.2) n (w2_2, w2_s) = some y → (∀  (es : XS), es = y → ∀ (H : Heap) (locs : List Loc) (ls : Array Slot), va_P D classes (xw_M ad cI cZ es) H → va_S A s.heap H locs → lv_has ls 3 [(0, .ref (ad 0)), (1, .ref (ad 17))] → W p l e (xk_rm 0 0) s m args below meth c H locs 0 0 Q (F0 m 59 ls [])) → ∀ (H : Heap) (locs : List Loc) (ls : Array Slot), va_P D classes (xw_M ad cI cZ w2_s) H → va_S A s.heap H locs → lv_has ls 3 [(0, .ref (ad 0)), (1, .ref (ad 17)), (2, .int w2_2)] → W p l e (xk_rm 0 0) s m args below meth c H locs 0 0 Q (F0 m 2 ls []) := by
    intro n
    induction n with
    | zero =>
      intro w2_2 w2_s y hL
      exact nomatch (show (none : Option _) = some y from hL)
    | succ n ih =>
      intro w2_2 w2_s y hL kx0 H locs ls hP hS hl
      obtain ⟨z9, hB, hL⟩ := xo_lp_s hL
      replace hB : F_Mod_keep_b2 w2_2 w2_s = some z9 := hB
      unfold F_Mod_keep_b2 at hB
      refine lv_iload_n hx hb d_Mod_keep_2 rfl (lv_at hl 2 rfl) ?_
      refine lv_bipush (v := (6 : Int32)) hx hb d_Mod_keep_3 (by decide) ?_
      refine lv_icmp_ge (tgt := 59) hx hb d_Mod_keep_5 (by decide) (fun c_255 => ?_) (fun c_255 => ?_)
      · replace hB := xo_if_t c_255 hB
        have q9 := Option.some.inj hB
        subst q9
        replace hL := Option.some.inj (xo_elR hL)
        subst hL
        exact kx0 _ rfl _ _ _ hP hS (lv_sub hl [0, 1] rfl)
      · replace hB := xo_if_f c_255 hB
        refine lv_aload_n hx hb d_Mod_keep_8 rfl (lv_at hl 1 rfl) ?_
        refine lv_iload_n hx hb d_Mod_keep_9 rfl (lv_at hl 2 rfl) ?_
        refine lv_aload_n hx hb d_Mod_keep_10 rfl (lv_at hl 0 rfl) ?_
        refine xk_get (C := R_Mod) (T := F_Mod) (N := 23) hx hb hts i_Mod hown hK hP 0 xw_M_at_0 rfl 1 (by decide) u_667 rfl d_Mod_keep_11 ?_
        refine lv_iload_n hx hb d_Mod_keep_14 rfl (lv_at hl 2 rfl) ?_
        obtain ⟨v2, h_v2, hB⟩ := xo_ob hB
        refine xk_iald hx hb hK hP 1 xw_M_at_1 h_v2 d_Mod_keep_15 ?_
        obtain ⟨_, h_t3, hB⟩ := xo_ob hB
        obtain ⟨t3, e_t3, hB⟩ := xo_nm_e hB
        refine xk_iast hx hb hK hP (hDw _) hS 12 xw_M_at_17 h_t3 (xw_M_set_17 _) d_Mod_keep_16 (fun H locs hP hS => ?_)
        replace hP : va_P D classes (xw_M ad cI cZ t3) H := by rw [e_t3]; exact hP
        clear e_t3
        refine lv_aload_n hx hb d_Mod_keep_17 rfl (lv_at hl 1 rfl) ?_
        refine lv_bipush (v := (6 : Int32)) hx hb d_Mod_keep_18 (by decide) ?_
        refine lv_iload_n hx hb d_Mod_keep_20 rfl (lv_at hl 2 rfl) ?_
        refine lv_iadd hx hb d_Mod_keep_21 ?_
        refine lv_aload_n hx hb d_Mod_keep_22 rfl (lv_at hl 0 rfl) ?_
        refine xk_get (C := R_Mod) (T := F_Mod) (N := 23) hx hb hts i_Mod hown hK hP 0 xw_M_at_0 rfl 2 (by decide) u_668 rfl d_Mod_keep_23 ?_
        refine lv_iload_n hx hb d_Mod_keep_26 rfl (lv_at hl 2 rfl) ?_
        obtain ⟨v4, h_v4, hB⟩ := xo_ob hB
        refine xk_iald hx hb hK hP 2 xw_M_at_2 h_v4 d_Mod_keep_27 ?_
        obtain ⟨_, h_t5, hB⟩ := xo_ob hB
        obtain ⟨t5, e_t5, hB⟩ := xo_nm_e hB
        refine xk_iast hx hb hK hP (hDw _) hS 12 xw_M_at_17 h_t5 (xw_M_set_17 _) d_Mod_keep_28 (fun H locs hP hS => ?_)
        replace hP : va_P D classes (xw_M ad cI cZ t5) H := by rw [e_t5]; exact hP
        clear e_t5
        refine lv_aload_n hx hb d_Mod_keep_29 rfl (lv_at hl 1 rfl) ?_
        refine lv_bipush (v := (12 : Int32)) hx hb d_Mod_keep_30 (by decide) ?_
        refine lv_iload_n hx hb d_Mod_keep_32 rfl (lv_at hl 2 rfl) ?_
        refine lv_iadd hx hb d_Mod_keep_33 ?_
        refine lv_aload_n hx hb d_Mod_keep_34 rfl (lv_at hl 0 rfl) ?_
        refine xk_get (C := R_Mod) (T := F_Mod) (N := 23) hx hb hts i_Mod hown hK hP 0 xw_M_at_0 rfl 3 (by decide) u_669 rfl d_Mod_keep_35 ?_
        refine lv_iload_n hx hb d_Mod_keep_38 rfl (lv_at hl 2 rfl) ?_
        obtain ⟨v6, h_v6, hB⟩ := xo_ob hB
        refine xk_iald hx hb hK hP 3 xw_M_at_3 h_v6 d_Mod_keep_39 ?_
        obtain ⟨_, h_t7, hB⟩ := xo_ob hB
        obtain ⟨t7, e_t7, hB⟩ := xo_nm_e hB
        refine xk_iast hx hb hK hP (hDw _) hS 12 xw_M_at_17 h_t7 (xw_M_set_17 _) d_Mod_keep_40 (fun H locs hP hS => ?_)
        replace hP : va_P D classes (xw_M ad cI cZ t7) H := by rw [e_t7]; exact hP
        clear e_t7
        refine lv_aload_n hx hb d_Mod_keep_41 rfl (lv_at hl 1 rfl) ?_
        refine lv_bipush (v := (18 : Int32)) hx hb d_Mod_keep_42 (by decide) ?_
        refine lv_iload_n hx hb d_Mod_keep_44 rfl (lv_at hl 2 rfl) ?_
        refine lv_iadd hx hb d_Mod_keep_45 ?_
        refine lv_aload_n hx hb d_Mod_keep_46 rfl (lv_at hl 0 rfl) ?_
        refine xk_get (C := R_Mod) (T := F_Mod) (N := 23) hx hb hts i_Mod hown hK hP 0 xw_M_at_0 rfl 4 (by decide) u_670 rfl d_Mod_keep_47 ?_
        refine lv_iload_n hx hb d_Mod_keep_50 rfl (lv_at hl 2 rfl) ?_
        obtain ⟨v8, h_v8, hB⟩ := xo_ob hB
        refine xk_iald hx hb hK hP 4 xw_M_at_4 h_v8 d_Mod_keep_51 ?_
        obtain ⟨_, h_t9, hB⟩ := xo_ob hB
        obtain ⟨t9, e_t9, hB⟩ := xo_nm_e hB
        refine xk_iast hx hb hK hP (hDw _) hS 12 xw_M_at_17 h_t9 (xw_M_set_17 _) d_Mod_keep_52 (fun H locs hP hS => ?_)
        replace hP : va_P D classes (xw_M ad cI cZ t9) H := by rw [e_t9]; exact hP
        clear e_t9
        obtain ⟨v10, e_v10, hB⟩ := xo_nm_e hB
        refine lv_iinc (v := v10) (lv' := [(2, .int v10), (0, .ref (ad 0)), (1, .ref (ad 17))]) hx hb d_Mod_keep_53 hl (k := 2) rfl (by rw [e_v10]; rfl) (by decide) rfl (fun ls hl => ?_)
        clear e_v10
        refine lv_goto (tgt := 2) hx hb d_Mod_keep_56 (by decide) ?_
        have q9 := Option.some.inj hB
        subst q9
        exact ih _ _ _ (xo_elL hL) kx0 _ _ _ hP hS (lv_sub hl [1, 2, 0] rfl)
  obtain ⟨y2, hL2, hF⟩ := xo_ob hF
  refine lp2 1000000 (0 : Int32) st y2 hL2 ?_ _ _ _ hP hS (lv_sub hl [1, 2, 0] rfl)
  intro t1 ey H locs ls hP hS hl
  subst ey
  refine lv_iconst (v := (0 : Int32)) hx hb d_Mod_keep_59 (by decide) ?_
  refine lv_istore_n (lv' := [(2, .int (0 : Int32)), (0, .ref (ad 0)), (1, .ref (ad 17))]) hx hb d_Mod_keep_60 rfl hl (by decide) rfl (fun ls hl => ?_)
  have lp61 : ∀ (n : Nat) (w61_2 : Int32) (w61_s : XS) (y : XS), xo_lp (fun q : (Int32 × XS) => F_Mod_keep_b61 q.1 q.2) n (w61_2, w61_s) = some y → (∀  (es : XS), es = y → ∀ (H : Heap) (locs : List Loc) (ls : Array Slot), va_P D classes (xw_M ad cI cZ es) H → va_S A s.heap H locs → lv_has ls 3 [(0, .ref (ad 0)), (1, .ref (ad 17))] → W p l e (xk_rm 0 0) s m args below meth c H locs 0 0 Q (F0 m 97 ls [])) → ∀ (H : Heap) (locs : List Loc) (ls : Array Slot), va_P D classes (xw_M ad cI cZ w61_s) H → va_S A s.heap H locs → lv_has ls 3 [(0, .ref (ad 0)), (1, .ref (ad 17)), (2, .int w61_2)] → W p l e (xk_rm 0 0) s m args below meth c H locs 0 0 Q (F0 m 61 ls []) := by
    intro n
    induction n with
    | zero =>
      intro w61_2 w61_s y hL
      exact nomatch (show (none : Option _) = some y from hL)
    | succ n ih =>
      intro w61_2 w61_s y hL kx0 H locs ls hP hS hl
      obtain ⟨z9, hB, hL⟩ := xo_lp_s hL
      replace hB : F_Mod_keep_b61 w61_2 w61_s = some z9 := hB
      unfold F_Mod_keep_b61 at hB
      refine lv_iload_n hx hb d_Mod_keep_61 rfl (lv_at hl 2 rfl) ?_
      refine lv_bipush (v := (8 : Int32)) hx hb d_Mod_keep_62 (by decide) ?_
      refine lv_icmp_ge (tgt := 97) hx hb d_Mod_keep_64 (by decide) (fun c_256 => ?_) (fun c_256 => ?_)
      · replace hB := xo_if_t c_256 hB
        have q9 := Option.some.inj hB
        subst q9
        replace hL := Option.some.inj (xo_elR hL)
        subst hL
        exact kx0 _ rfl _ _ _ hP hS (lv_sub hl [0, 1] rfl)
      · replace hB := xo_if_f c_256 hB
        refine lv_aload_n hx hb d_Mod_keep_67 rfl (lv_at hl 1 rfl) ?_
        refine lv_bipush (v := (24 : Int32)) hx hb d_Mod_keep_68 (by decide) ?_
        refine lv_iload_n hx hb d_Mod_keep_70 rfl (lv_at hl 2 rfl) ?_
        refine lv_iadd hx hb d_Mod_keep_71 ?_
        refine lv_aload_n hx hb d_Mod_keep_72 rfl (lv_at hl 0 rfl) ?_
        refine xk_get (C := R_Mod) (T := F_Mod) (N := 23) hx hb hts i_Mod hown hK hP 0 xw_M_at_0 rfl 6 (by decide) u_672 rfl d_Mod_keep_73 ?_
        refine lv_iload_n hx hb d_Mod_keep_76 rfl (lv_at hl 2 rfl) ?_
        obtain ⟨v12, h_v12, hB⟩ := xo_ob hB
        refine xk_iald hx hb hK hP 5 xw_M_at_6 h_v12 d_Mod_keep_77 ?_
        obtain ⟨_, h_t13, hB⟩ := xo_ob hB
        obtain ⟨t13, e_t13, hB⟩ := xo_nm_e hB
        refine xk_iast hx hb hK hP (hDw _) hS 12 xw_M_at_17 h_t13 (xw_M_set_17 _) d_Mod_keep_78 (fun H locs hP hS => ?_)
        replace hP : va_P D classes (xw_M ad cI cZ t13) H := by rw [e_t13]; exact hP
        clear e_t13
        refine lv_aload_n hx hb d_Mod_keep_79 rfl (lv_at hl 1 rfl) ?_
        refine lv_bipush (v := (32 : Int32)) hx hb d_Mod_keep_80 (by decide) ?_
        refine lv_iload_n hx hb d_Mod_keep_82 rfl (lv_at hl 2 rfl) ?_
        refine lv_iadd hx hb d_Mod_keep_83 ?_
        refine lv_aload_n hx hb d_Mod_keep_84 rfl (lv_at hl 0 rfl) ?_
        refine xk_get (C := R_Mod) (T := F_Mod) (N := 23) hx hb hts i_Mod hown hK hP 0 xw_M_at_0 rfl 7 (by decide) u_673 rfl d_Mod_keep_85 ?_
        refine lv_iload_n hx hb d_Mod_keep_88 rfl (lv_at hl 2 rfl) ?_
        obtain ⟨v14, h_v14, hB⟩ := xo_ob hB
        refine xk_iald hx hb hK hP 6 xw_M_at_7 h_v14 d_Mod_keep_89 ?_
        obtain ⟨_, h_t15, hB⟩ := xo_ob hB
        obtain ⟨t15, e_t15, hB⟩ := xo_nm_e hB
        refine xk_iast hx hb hK hP (hDw _) hS 12 xw_M_at_17 h_t15 (xw_M_set_17 _) d_Mod_keep_90 (fun H locs hP hS => ?_)
        replace hP : va_P D classes (xw_M ad cI cZ t15) H := by rw [e_t15]; exact hP
        clear e_t15
        obtain ⟨v16, e_v16, hB⟩ := xo_nm_e hB
        refine lv_iinc (v := v16) (lv' := [(2, .int v16), (0, .ref (ad 0)), (1, .ref (ad 17))]) hx hb d_Mod_keep_91 hl (k := 2) rfl (by rw [e_v16]; rfl) (by decide) rfl (fun ls hl => ?_)
        clear e_v16
        refine lv_goto (tgt := 61) hx hb d_Mod_keep_94 (by decide) ?_
        have q9 := Option.some.inj hB
        subst q9
        exact ih _ _ _ (xo_elL hL) kx0 _ _ _ hP hS (lv_sub hl [1, 2, 0] rfl)
  obtain ⟨y61, hL61, hF⟩ := xo_ob hF
  refine lp61 1000000 (0 : Int32) t1 y61 hL61 ?_ _ _ _ hP hS (lv_sub hl [1, 2, 0] rfl)
  intro t11 ey H locs ls hP hS hl
  subst ey
  refine lv_aload_n hx hb d_Mod_keep_97 rfl (lv_at hl 1 rfl) ?_
  refine lv_bipush (v := (40 : Int32)) hx hb d_Mod_keep_98 (by decide) ?_
  refine lv_aload_n hx hb d_Mod_keep_100 rfl (lv_at hl 0 rfl) ?_
  refine xk_get (C := R_Mod) (T := F_Mod) (N := 23) hx hb hts i_Mod hown hK hP 0 xw_M_at_0 rfl 0 (by decide) u_666 rfl d_Mod_keep_101 ?_
  obtain ⟨_, h_t17, hF⟩ := xo_ob hF
  obtain ⟨t17, e_t17, hF⟩ := xo_nm_e hF
  refine xk_iast hx hb hK hP (hDw _) hS 12 xw_M_at_17 h_t17 (xw_M_set_17 _) d_Mod_keep_104 (fun H locs hP hS => ?_)
  replace hP : va_P D classes (xw_M ad cI cZ t17) H := by rw [e_t17]; exact hP
  clear e_t17
  refine lv_aload_n hx hb d_Mod_keep_105 rfl (lv_at hl 1 rfl) ?_
  refine lv_bipush (v := (41 : Int32)) hx hb d_Mod_keep_106 (by decide) ?_
  refine lv_aload_n hx hb d_Mod_keep_108 rfl (lv_at hl 0 rfl) ?_
  refine xk_get (C := R_Mod) (T := F_Mod) (N := 23) hx hb hts i_Mod hown hK hP 0 xw_M_at_0 rfl 5 (by decide) u_671 rfl d_Mod_keep_109 ?_
  obtain ⟨_, h_t18, hF⟩ := xo_ob hF
  obtain ⟨t18, e_t18, hF⟩ := xo_nm_e hF
  refine xk_iast hx hb hK hP (hDw _) hS 12 xw_M_at_17 h_t18 (xw_M_set_17 _) d_Mod_keep_112 (fun H locs hP hS => ?_)
  replace hP : va_P D classes (xw_M ad cI cZ t18) H := by rw [e_t18]; exact hP
  clear e_t18
  have q9 := Option.some.inj hF
  subst q9
  exact hret 113 _ _ _ d_Mod_keep_113 hP hS
set_option maxHeartbeats 4000000 in
set_option maxRecDepth 100000 in
theorem c_Mod_again (l : Launch) (D : va_G) (cI cZ : ClassId) (ad : Nat → Nat) (A : Nat → Prop) (adK adV : Nat → Nat) (hDw : ∀ st : XS, va_D A (xw_M ad cI cZ st)) (st : XS) (st9 : XS) (hF : F_Mod_again  st = some st9) : K_V l D cI cZ A adK adV (xw_M ad cI cZ) y_Mod_again b_Mod_again 3 none 0 0 [.ref (ad 0), .ref (ad 17)] st st9 := by
  refine xk_startV (by decide) rfl (Nat.le_of_ble_eq_true rfl) ?_
  intro p e s m args below meth c Q ls hx hb hml hown hts hK hE hP hS hl hret
  replace hown : s.vm.findClass R_Mod = some m.cls := hown
  replace hl : lv_has ls 3 [(0, .ref (ad 0)), (1, .ref (ad 17))] := hl
  unfold F_Mod_again at hF
  refine lv_iconst (v := (0 : Int32)) hx hb d_Mod_again_0 (by decide) ?_
  refine lv_istore_n (lv' := [(2, .int (0 : Int32)), (0, .ref (ad 0)), (1, .ref (ad 17))]) hx hb d_Mod_again_1 rfl hl (by decide) rfl (fun ls hl => ?_)
  have lp2 : ∀ (n : Nat) (w2_2 : Int32) (w2_s : XS) (y : XS), xo_lp (fun q : (Int32 × XS) => F_Mod_again_b2 q.1 q.2) n (w2_2, w2_s) = some y → (∀  (es : XS), es = y → ∀ (H : Heap) (locs : List Loc) (ls : Array Slot), va_P D classes (xw_M ad cI cZ es) H → va_S A s.heap H locs → lv_has ls 3 [(0, .ref (ad 0)), (1, .ref (ad 17))] → W p l e (xk_rm 0 0) s m args below meth c H locs 0 0 Q (F0 m 59 ls [])) → ∀ (H : Heap) (locs : List Loc) (ls : Array Slot), va_P D classes (xw_M ad cI cZ w2_s) H → va_S A s.heap H locs → lv_has ls 3 [(0, .ref (ad 0)), (1, .ref (ad 17)), (2, .int w2_2)] → W p l e (xk_rm 0 0) s m args below meth c H locs 0 0 Q (F0 m 2 ls []) := by
    intro n
    induction n with
    | zero =>
      intro w2_2 w2_s y hL
      exact nomatch (show (none : Option _) = some y from hL)
    | succ n ih =>
      intro w2_2 w2_s y hL kx0 H locs ls hP hS hl
      obtain ⟨z9, hB, hL⟩ := xo_lp_s hL
      replace hB : F_Mod_again_b2 w2_2 w2_s = some z9 := hB
      unfold F_Mod_again_b2 at hB
      refine lv_iload_n hx hb d_Mod_again_2 rfl (lv_at hl 2 rfl) ?_
      refine lv_bipush (v := (6 : Int32)) hx hb d_Mod_again_3 (by decide) ?_
      refine lv_icmp_ge (tgt := 59) hx hb d_Mod_again_5 (by decide) (fun c_257 => ?_) (fun c_257 => ?_)
      · replace hB := xo_if_t c_257 hB
        have q9 := Option.some.inj hB
        subst q9
        replace hL := Option.some.inj (xo_elR hL)
        subst hL
        exact kx0 _ rfl _ _ _ hP hS (lv_sub hl [0, 1] rfl)
      · replace hB := xo_if_f c_257 hB
        refine lv_aload_n hx hb d_Mod_again_8 rfl (lv_at hl 0 rfl) ?_
        refine xk_get (C := R_Mod) (T := F_Mod) (N := 23) hx hb hts i_Mod hown hK hP 0 xw_M_at_0 rfl 1 (by decide) u_667 rfl d_Mod_again_9 ?_
        refine lv_iload_n hx hb d_Mod_again_12 rfl (lv_at hl 2 rfl) ?_
        refine lv_aload_n hx hb d_Mod_again_13 rfl (lv_at hl 1 rfl) ?_
        refine lv_iload_n hx hb d_Mod_again_14 rfl (lv_at hl 2 rfl) ?_
        obtain ⟨v2, h_v2, hB⟩ := xo_ob hB
        refine xk_iald hx hb hK hP 12 xw_M_at_17 h_v2 d_Mod_again_15 ?_
        obtain ⟨_, h_t3, hB⟩ := xo_ob hB
        obtain ⟨t3, e_t3, hB⟩ := xo_nm_e hB
        refine xk_iast hx hb hK hP (hDw _) hS 1 xw_M_at_1 h_t3 (xw_M_set_1 _) d_Mod_again_16 (fun H locs hP hS => ?_)
        replace hP : va_P D classes (xw_M ad cI cZ t3) H := by rw [e_t3]; exact hP
        clear e_t3
        refine lv_aload_n hx hb d_Mod_again_17 rfl (lv_at hl 0 rfl) ?_
        refine xk_get (C := R_Mod) (T := F_Mod) (N := 23) hx hb hts i_Mod hown hK hP 0 xw_M_at_0 rfl 2 (by decide) u_668 rfl d_Mod_again_18 ?_
        refine lv_iload_n hx hb d_Mod_again_21 rfl (lv_at hl 2 rfl) ?_
        refine lv_aload_n hx hb d_Mod_again_22 rfl (lv_at hl 1 rfl) ?_
        refine lv_bipush (v := (6 : Int32)) hx hb d_Mod_again_23 (by decide) ?_
        refine lv_iload_n hx hb d_Mod_again_25 rfl (lv_at hl 2 rfl) ?_
        refine lv_iadd hx hb d_Mod_again_26 ?_
        obtain ⟨v4, h_v4, hB⟩ := xo_ob hB
        refine xk_iald hx hb hK hP 12 xw_M_at_17 h_v4 d_Mod_again_27 ?_
        obtain ⟨_, h_t5, hB⟩ := xo_ob hB
        obtain ⟨t5, e_t5, hB⟩ := xo_nm_e hB
        refine xk_iast hx hb hK hP (hDw _) hS 2 xw_M_at_2 h_t5 (xw_M_set_2 _) d_Mod_again_28 (fun H locs hP hS => ?_)
        replace hP : va_P D classes (xw_M ad cI cZ t5) H := by rw [e_t5]; exact hP
        clear e_t5
        refine lv_aload_n hx hb d_Mod_again_29 rfl (lv_at hl 0 rfl) ?_
        refine xk_get (C := R_Mod) (T := F_Mod) (N := 23) hx hb hts i_Mod hown hK hP 0 xw_M_at_0 rfl 3 (by decide) u_669 rfl d_Mod_again_30 ?_
        refine lv_iload_n hx hb d_Mod_again_33 rfl (lv_at hl 2 rfl) ?_
        refine lv_aload_n hx hb d_Mod_again_34 rfl (lv_at hl 1 rfl) ?_
        refine lv_bipush (v := (12 : Int32)) hx hb d_Mod_again_35 (by decide) ?_
        refine lv_iload_n hx hb d_Mod_again_37 rfl (lv_at hl 2 rfl) ?_
        refine lv_iadd hx hb d_Mod_again_38 ?_
        obtain ⟨v6, h_v6, hB⟩ := xo_ob hB
        refine xk_iald hx hb hK hP 12 xw_M_at_17 h_v6 d_Mod_again_39 ?_
        obtain ⟨_, h_t7, hB⟩ := xo_ob hB
        obtain ⟨t7, e_t7, hB⟩ := xo_nm_e hB
        refine xk_iast hx hb hK hP (hDw _) hS 3 xw_M_at_3 h_t7 (xw_M_set_3 _) d_Mod_again_40 (fun H locs hP hS => ?_)
        replace hP : va_P D classes (xw_M ad cI cZ t7) H := by rw [e_t7]; exact hP
        clear e_t7
        refine lv_aload_n hx hb d_Mod_again_41 rfl (lv_at hl 0 rfl) ?_
        refine xk_get (C := R_Mod) (T := F_Mod) (N := 23) hx hb hts i_Mod hown hK hP 0 xw_M_at_0 rfl 4 (by decide) u_670 rfl d_Mod_again_42 ?_
        refine lv_iload_n hx hb d_Mod_again_45 rfl (lv_at hl 2 rfl) ?_
        refine lv_aload_n hx hb d_Mod_again_46 rfl (lv_at hl 1 rfl) ?_
        refine lv_bipush (v := (18 : Int32)) hx hb d_Mod_again_47 (by decide) ?_
        refine lv_iload_n hx hb d_Mod_again_49 rfl (lv_at hl 2 rfl) ?_
        refine lv_iadd hx hb d_Mod_again_50 ?_
        obtain ⟨v8, h_v8, hB⟩ := xo_ob hB
        refine xk_iald hx hb hK hP 12 xw_M_at_17 h_v8 d_Mod_again_51 ?_
        obtain ⟨_, h_t9, hB⟩ := xo_ob hB
        obtain ⟨t9, e_t9, hB⟩ := xo_nm_e hB
        refine xk_iast hx hb hK hP (hDw _) hS 4 xw_M_at_4 h_t9 (xw_M_set_4 _) d_Mod_again_52 (fun H locs hP hS => ?_)
        replace hP : va_P D classes (xw_M ad cI cZ t9) H := by rw [e_t9]; exact hP
        clear e_t9
        obtain ⟨v10, e_v10, hB⟩ := xo_nm_e hB
        refine lv_iinc (v := v10) (lv' := [(2, .int v10), (0, .ref (ad 0)), (1, .ref (ad 17))]) hx hb d_Mod_again_53 hl (k := 2) rfl (by rw [e_v10]; rfl) (by decide) rfl (fun ls hl => ?_)
        clear e_v10
        refine lv_goto (tgt := 2) hx hb d_Mod_again_56 (by decide) ?_
        have q9 := Option.some.inj hB
        subst q9
        exact ih _ _ _ (xo_elL hL) kx0 _ _ _ hP hS (lv_sub hl [1, 2, 0] rfl)
  obtain ⟨y2, hL2, hF⟩ := xo_ob hF
  refine lp2 1000000 (0 : Int32) st y2 hL2 ?_ _ _ _ hP hS (lv_sub hl [1, 2, 0] rfl)
  intro t1 ey H locs ls hP hS hl
  subst ey
  refine lv_iconst (v := (0 : Int32)) hx hb d_Mod_again_59 (by decide) ?_
  refine lv_istore_n (lv' := [(2, .int (0 : Int32)), (0, .ref (ad 0)), (1, .ref (ad 17))]) hx hb d_Mod_again_60 rfl hl (by decide) rfl (fun ls hl => ?_)
  have lp61 : ∀ (n : Nat) (w61_2 : Int32) (w61_s : XS) (y : XS), xo_lp (fun q : (Int32 × XS) => F_Mod_again_b61 q.1 q.2) n (w61_2, w61_s) = some y → (∀  (es : XS), es = y → ∀ (H : Heap) (locs : List Loc) (ls : Array Slot), va_P D classes (xw_M ad cI cZ es) H → va_S A s.heap H locs → lv_has ls 3 [(0, .ref (ad 0)), (1, .ref (ad 17))] → W p l e (xk_rm 0 0) s m args below meth c H locs 0 0 Q (F0 m 97 ls [])) → ∀ (H : Heap) (locs : List Loc) (ls : Array Slot), va_P D classes (xw_M ad cI cZ w61_s) H → va_S A s.heap H locs → lv_has ls 3 [(0, .ref (ad 0)), (1, .ref (ad 17)), (2, .int w61_2)] → W p l e (xk_rm 0 0) s m args below meth c H locs 0 0 Q (F0 m 61 ls []) := by
    intro n
    induction n with
    | zero =>
      intro w61_2 w61_s y hL
      exact nomatch (show (none : Option _) = some y from hL)
    | succ n ih =>
      intro w61_2 w61_s y hL kx0 H locs ls hP hS hl
      obtain ⟨z9, hB, hL⟩ := xo_lp_s hL
      replace hB : F_Mod_again_b61 w61_2 w61_s = some z9 := hB
      unfold F_Mod_again_b61 at hB
      refine lv_iload_n hx hb d_Mod_again_61 rfl (lv_at hl 2 rfl) ?_
      refine lv_bipush (v := (8 : Int32)) hx hb d_Mod_again_62 (by decide) ?_
      refine lv_icmp_ge (tgt := 97) hx hb d_Mod_again_64 (by decide) (fun c_258 => ?_) (fun c_258 => ?_)
      · replace hB := xo_if_t c_258 hB
        have q9 := Option.some.inj hB
        subst q9
        replace hL := Option.some.inj (xo_elR hL)
        subst hL
        exact kx0 _ rfl _ _ _ hP hS (lv_sub hl [0, 1] rfl)
      · replace hB := xo_if_f c_258 hB
        refine lv_aload_n hx hb d_Mod_again_67 rfl (lv_at hl 0 rfl) ?_
        refine xk_get (C := R_Mod) (T := F_Mod) (N := 23) hx hb hts i_Mod hown hK hP 0 xw_M_at_0 rfl 6 (by decide) u_672 rfl d_Mod_again_68 ?_
        refine lv_iload_n hx hb d_Mod_again_71 rfl (lv_at hl 2 rfl) ?_
        refine lv_aload_n hx hb d_Mod_again_72 rfl (lv_at hl 1 rfl) ?_
        refine lv_bipush (v := (24 : Int32)) hx hb d_Mod_again_73 (by decide) ?_
        refine lv_iload_n hx hb d_Mod_again_75 rfl (lv_at hl 2 rfl) ?_
        refine lv_iadd hx hb d_Mod_again_76 ?_
        obtain ⟨v12, h_v12, hB⟩ := xo_ob hB
        refine xk_iald hx hb hK hP 12 xw_M_at_17 h_v12 d_Mod_again_77 ?_
        obtain ⟨_, h_t13, hB⟩ := xo_ob hB
        obtain ⟨t13, e_t13, hB⟩ := xo_nm_e hB
        refine xk_iast hx hb hK hP (hDw _) hS 5 xw_M_at_6 h_t13 (xw_M_set_6 _) d_Mod_again_78 (fun H locs hP hS => ?_)
        replace hP : va_P D classes (xw_M ad cI cZ t13) H := by rw [e_t13]; exact hP
        clear e_t13
        refine lv_aload_n hx hb d_Mod_again_79 rfl (lv_at hl 0 rfl) ?_
        refine xk_get (C := R_Mod) (T := F_Mod) (N := 23) hx hb hts i_Mod hown hK hP 0 xw_M_at_0 rfl 7 (by decide) u_673 rfl d_Mod_again_80 ?_
        refine lv_iload_n hx hb d_Mod_again_83 rfl (lv_at hl 2 rfl) ?_
        refine lv_aload_n hx hb d_Mod_again_84 rfl (lv_at hl 1 rfl) ?_
        refine lv_bipush (v := (32 : Int32)) hx hb d_Mod_again_85 (by decide) ?_
        refine lv_iload_n hx hb d_Mod_again_87 rfl (lv_at hl 2 rfl) ?_
        refine lv_iadd hx hb d_Mod_again_88 ?_
        obtain ⟨v14, h_v14, hB⟩ := xo_ob hB
        refine xk_iald hx hb hK hP 12 xw_M_at_17 h_v14 d_Mod_again_89 ?_
        obtain ⟨_, h_t15, hB⟩ := xo_ob hB
        obtain ⟨t15, e_t15, hB⟩ := xo_nm_e hB
        refine xk_iast hx hb hK hP (hDw _) hS 6 xw_M_at_7 h_t15 (xw_M_set_7 _) d_Mod_again_90 (fun H locs hP hS => ?_)
        replace hP : va_P D classes (xw_M ad cI cZ t15) H := by rw [e_t15]; exact hP
        clear e_t15
        obtain ⟨v16, e_v16, hB⟩ := xo_nm_e hB
        refine lv_iinc (v := v16) (lv' := [(2, .int v16), (0, .ref (ad 0)), (1, .ref (ad 17))]) hx hb d_Mod_again_91 hl (k := 2) rfl (by rw [e_v16]; rfl) (by decide) rfl (fun ls hl => ?_)
        clear e_v16
        refine lv_goto (tgt := 61) hx hb d_Mod_again_94 (by decide) ?_
        have q9 := Option.some.inj hB
        subst q9
        exact ih _ _ _ (xo_elL hL) kx0 _ _ _ hP hS (lv_sub hl [1, 2, 0] rfl)
  obtain ⟨y61, hL61, hF⟩ := xo_ob hF
  refine lp61 1000000 (0 : Int32) t1 y61 hL61 ?_ _ _ _ hP hS (lv_sub hl [1, 2, 0] rfl)
  intro t11 ey H locs ls hP hS hl
  subst ey
  refine lv_aload_n hx hb d_Mod_again_97 rfl (lv_at hl 0 rfl) ?_
  refine lv_aload_n hx hb d_Mod_again_98 rfl (lv_at hl 1 rfl) ?_
  refine lv_bipush (v := (40 : Int32)) hx hb d_Mod_again_99 (by decide) ?_
  obtain ⟨v17, h_v17, hF⟩ := xo_ob hF
  refine xk_iald hx hb hK hP 12 xw_M_at_17 h_v17 d_Mod_again_101 ?_
  obtain ⟨t18, e_t18, hF⟩ := xo_nm_e hF
  refine xk_put (C := R_Mod) (T := F_Mod) (N := 23) (ty := .int) hx hb hts i_Mod t_Mod t_Mod_ok n_Mod hown hK hP (hDw _) hS 0 xw_M_at_0 rfl 0 (by decide) u_666 rfl (by decide +kernel) rfl rfl (Nat.le_of_ble_eq_true rfl) (xw_M_put_0_0 _) d_Mod_again_102 (fun H locs hP hS => ?_)
  replace hP : va_P D classes (xw_M ad cI cZ t18) H := by rw [e_t18]; exact hP
  clear e_t18
  refine lv_aload_n hx hb d_Mod_again_105 rfl (lv_at hl 0 rfl) ?_
  refine lv_aload_n hx hb d_Mod_again_106 rfl (lv_at hl 1 rfl) ?_
  refine lv_bipush (v := (41 : Int32)) hx hb d_Mod_again_107 (by decide) ?_
  obtain ⟨v19, h_v19, hF⟩ := xo_ob hF
  refine xk_iald hx hb hK hP 12 xw_M_at_17 h_v19 d_Mod_again_109 ?_
  obtain ⟨t20, e_t20, hF⟩ := xo_nm_e hF
  refine xk_put (C := R_Mod) (T := F_Mod) (N := 23) (ty := .int) hx hb hts i_Mod t_Mod t_Mod_ok n_Mod hown hK hP (hDw _) hS 0 xw_M_at_0 rfl 5 (by decide) u_671 rfl (by decide +kernel) rfl rfl (Nat.le_of_ble_eq_true rfl) (xw_M_put_0_5 _) d_Mod_again_110 (fun H locs hP hS => ?_)
  replace hP : va_P D classes (xw_M ad cI cZ t20) H := by rw [e_t20]; exact hP
  clear e_t20
  have q9 := Option.some.inj hF
  subst q9
  exact hret 113 _ _ _ d_Mod_again_113 hP hS
set_option maxHeartbeats 4000000 in
set_option maxRecDepth 100000 in
theorem c_Mod_town (l : Launch) (D : va_G) (cI cZ : ClassId) (ad : Nat → Nat) (A : Nat → Prop) (adK adV : Nat → Nat) (hDw : ∀ st : XS, va_D A (xw_M ad cI cZ st)) (st : XS) (r9 : Int32) (st9 : XS) (hF : F_Mod_town  st = some (r9, st9)) : K_I l D cI cZ A adK adV (xw_M ad cI cZ) y_Mod_town b_Mod_town 4 (some .int) 5 113 [.ref (ad 0)] st r9 st9 := by
  refine xk_startI (by decide) .int rfl (Nat.le_of_ble_eq_true rfl) ?_
  intro p e s m args below meth c Q ls hx hb hml hown hts hK hE hP hS hl hret
  replace hown : s.vm.findClass R_Mod = some m.cls := hown
  replace hl : lv_has ls 4 [(0, .ref (ad 0))] := hl
  unfold F_Mod_town at hF
  have mg53 : ∀ (x1 : Int32) (xs : XS), F_Mod_town_m53 x1 xs = some (r9, st9) → ∀ (H : Heap) (locs : List Loc) (ls : Array Slot), va_P D classes (xw_M ad cI cZ xs) H → va_S A s.heap H locs → lv_has ls 4 [(0, .ref (ad 0)), (1, .int x1)] → W p l e (xk_rm 5 113) s m args below meth c H locs 0 0 Q (F0 m 53 ls []) := by
    intro x1 xs hF H locs ls hP hS hl
    unfold F_Mod_town_m53 at hF
    refine lv_iload_n hx hb d_Mod_town_53 rfl (lv_at hl 1 rfl) ?_
    refine lv_if_ne (tgt := 71) hx hb d_Mod_town_54 (by decide) (fun c_259 => ?_) (fun c_259 => ?_)
    · replace hF := xo_if_f c_259 hF
      refine lv_aload_n hx hb d_Mod_town_71 rfl (lv_at hl 0 rfl) ?_
      refine lv_aload_n hx hb d_Mod_town_72 rfl (lv_at hl 0 rfl) ?_
      refine xk_get (C := R_Mod) (T := F_Mod) (N := 23) hx hb hts i_Mod hown hK hP 0 xw_M_at_0 rfl 17 (by decide) u_683 rfl d_Mod_town_73 ?_
      obtain ⟨t2, h_t2, hF⟩ := xo_ob hF
      refine xk_goV (xk_runV (As := [.ref (ad 17)]) (rest := []) hx hb hml hown hts hK hE (fun _ h => h) hP hS ok_Mod_keep in_Mod_keep u_774 (c_Mod_keep l D cI cZ ad A adK adV hDw xs t2 h_t2) (va_recv hK hP (ci := 4) (q0 := 0) rfl xw_M_at_0) (by decide) rfl hl.1 rfl (Nat.le_of_ble_eq_true rfl) d_Mod_town_76 ⟨Nat.le_refl _, Nat.le_refl _⟩) (fun _ h => h) hS (fun H locs hP hS => ?_)
      refine lv_aload_n hx hb d_Mod_town_79 rfl (lv_at hl 0 rfl) ?_
      refine lv_iconst (v := (0 : Int32)) hx hb d_Mod_town_80 (by decide) ?_
      obtain ⟨t3, e_t3, hF⟩ := xo_nm_e hF
      refine xk_put (C := R_Mod) (T := F_Mod) (N := 23) (ty := .int) hx hb hts i_Mod t_Mod t_Mod_ok n_Mod hown hK hP (hDw _) hS 0 xw_M_at_0 rfl 10 (by decide) u_676 rfl (by decide +kernel) rfl rfl (Nat.le_of_ble_eq_true rfl) (xw_M_put_0_10 _) d_Mod_town_81 (fun H locs hP hS => ?_)
      replace hP : va_P D classes (xw_M ad cI cZ t3) H := by rw [e_t3]; exact hP
      clear e_t3
      refine lv_iconst (v := (0 : Int32)) hx hb d_Mod_town_84 (by decide) ?_
      refine lv_istore_n (lv' := [(2, .int (0 : Int32)), (0, .ref (ad 0)), (1, .int x1)]) hx hb d_Mod_town_85 rfl hl (by decide) rfl (fun ls hl => ?_)
      have lp86 : ∀ (n : Nat) (w86_2 : Int32) (w86_s : XS) (y : ((Int32 × XS) ⊕ (Int32 × XS))), xo_lp (fun q : (Int32 × XS) => F_Mod_town_b86 q.1 q.2) n (w86_2, w86_s) = some y → (∀ (e3 : Int32) (es : XS), (.inl (e3, es)) = y → ∀ (H : Heap) (locs : List Loc) (ls : Array Slot), va_P D classes (xw_M ad cI cZ es) H → va_S A s.heap H locs → lv_has ls 4 [(0, .ref (ad 0)), (3, .int e3)] → W p l e (xk_rm 5 113) s m args below meth c H locs 0 0 Q (F0 m 110 ls [])) → (∀ (e2 : Int32) (es : XS), (.inr (e2, es)) = y → ∀ (H : Heap) (locs : List Loc) (ls : Array Slot), va_P D classes (xw_M ad cI cZ es) H → va_S A s.heap H locs → lv_has ls 4 [(0, .ref (ad 0)), (2, .int e2)] → W p l e (xk_rm 5 113) s m args below meth c H locs 0 0 Q (F0 m 142 ls [])) → ∀ (H : Heap) (locs : List Loc) (ls : Array Slot), va_P D classes (xw_M ad cI cZ w86_s) H → va_S A s.heap H locs → lv_has ls 4 [(0, .ref (ad 0)), (2, .int w86_2)] → W p l e (xk_rm 5 113) s m args below meth c H locs 0 0 Q (F0 m 86 ls []) := by
        intro n
        induction n with
        | zero =>
          intro w86_2 w86_s y hL
          exact nomatch (show (none : Option _) = some y from hL)
        | succ n ih =>
          intro w86_2 w86_s y hL kx0 kx1 H locs ls hP hS hl
          obtain ⟨z9, hB, hL⟩ := xo_lp_s hL
          replace hB : F_Mod_town_b86 w86_2 w86_s = some z9 := hB
          unfold F_Mod_town_b86 at hB
          refine lv_aload_n hx hb d_Mod_town_86 rfl (lv_at hl 0 rfl) ?_
          refine xk_get (C := R_Mod) (T := F_Mod) (N := 23) hx hb hts i_Mod hown hK hP 0 xw_M_at_0 rfl 10 (by decide) u_676 rfl d_Mod_town_87 ?_
          refine lv_aload_n hx hb d_Mod_town_90 rfl (lv_at hl 0 rfl) ?_
          refine xk_get (C := R_Mod) (T := F_Mod) (N := 23) hx hb hts i_Mod hown hK hP 0 xw_M_at_0 rfl 8 (by decide) u_674 rfl d_Mod_town_91 ?_
          refine lv_icmp_ge (tgt := 142) hx hb d_Mod_town_94 (by decide) (fun c_260 => ?_) (fun c_260 => ?_)
          · replace hB := xo_if_t c_260 hB
            have q9 := Option.some.inj hB
            subst q9
            replace hL := Option.some.inj (xo_elR hL)
            subst hL
            exact kx1 _ _ rfl _ _ _ hP hS (lv_sub hl [0, 1] rfl)
          · replace hB := xo_if_f c_260 hB
            refine lv_aload_n hx hb d_Mod_town_97 rfl (lv_at hl 0 rfl) ?_
            refine xk_get (C := R_Mod) (T := F_Mod) (N := 23) hx hb hts i_Mod hown hK hP 0 xw_M_at_0 rfl 10 (by decide) u_676 rfl d_Mod_town_98 ?_
            refine lv_topi (fun v8 e_v8 => ?_)
            replace hB := xo_nm_u hB e_v8
            clear e_v8
            refine lv_istore_n (lv' := [(3, .int v8), (0, .ref (ad 0)), (2, .int w86_2)]) hx hb d_Mod_town_101 rfl hl (by decide) rfl (fun ls hl => ?_)
            refine lv_aload_n hx hb d_Mod_town_102 rfl (lv_at hl 1 rfl) ?_
            refine lv_iconst (v := (1 : Int32)) hx hb d_Mod_town_103 (by decide) ?_
            obtain ⟨v9, t10, h_v9, hB⟩ := xo_ob2 hB
            refine xk_goI (xk_runV (As := [.int (1 : Int32)]) (rest := []) hx hb hml hown hts hK hE (fun _ h => h) hP hS ok_Mod_statement in_Mod_statement u_749 (c_Mod_statement l D cI cZ ad A adK adV hDw (1 : Int32) w86_s v9 t10 h_v9) (va_recv hK hP (ci := 4) (q0 := 0) rfl xw_M_at_0) (by decide) rfl hl.1 rfl (Nat.le_of_ble_eq_true rfl) d_Mod_town_104 ⟨Nat.le_refl _, Nat.le_refl _⟩) (fun _ h => h) hS (fun H locs hP hS => ?_)
            refine lv_if_ne (tgt := 129) hx hb d_Mod_town_107 (by decide) (fun c_261 => ?_) (fun c_261 => ?_)
            · replace hB := xo_if_f c_261 hB
              refine lv_aload_n hx hb d_Mod_town_129 rfl (lv_at hl 1 rfl) ?_
              refine lv_bipush (v := (59 : Int32)) hx hb d_Mod_town_130 (by decide) ?_
              obtain ⟨v11, t12, h_v11, hB⟩ := xo_ob2 hB
              refine xk_goI (xk_runV (As := [.int (59 : Int32)]) (rest := []) hx hb hml hown hts hK hE (fun _ h => h) hP hS ok_Mod_is in_Mod_is u_753 (c_Mod_is l D cI cZ ad A adK adV hDw (59 : Int32) t10 v11 t12 h_v11) (va_recv hK hP (ci := 4) (q0 := 0) rfl xw_M_at_0) (by decide) rfl hl.1 rfl (Nat.le_of_ble_eq_true rfl) d_Mod_town_132 ⟨Nat.le_refl _, Nat.le_refl _⟩) (fun _ h => h) hS (fun H locs hP hS => ?_)
              refine lv_pop hx hb d_Mod_town_135 rfl ?_
              obtain ⟨v13, e_v13, hB⟩ := xo_nm_e hB
              refine lv_iinc (v := v13) (lv' := [(2, .int v13), (3, .int v8), (0, .ref (ad 0))]) hx hb d_Mod_town_136 hl (k := 2) rfl (by rw [e_v13]; rfl) (by decide) rfl (fun ls hl => ?_)
              clear e_v13
              refine lv_goto (tgt := 86) hx hb d_Mod_town_139 (by decide) ?_
              have q9 := Option.some.inj hB
              subst q9
              exact ih _ _ _ (xo_elL hL) kx0 kx1 _ _ _ hP hS (lv_sub hl [2, 0] rfl)
            · replace hB := xo_if_t c_261 hB
              have q9 := Option.some.inj hB
              subst q9
              replace hL := Option.some.inj (xo_elR hL)
              subst hL
              exact kx0 _ _ rfl _ _ _ hP hS (lv_sub hl [1, 0] rfl)
      obtain ⟨y86, hL86, hF⟩ := xo_ob hF
      refine lp86 1000000 (0 : Int32) t3 y86 hL86 ?_ ?_ _ _ _ hP hS (lv_sub hl [1, 0] rfl)
      · intro o4 t5 ey H locs ls hP hS hl
        subst ey
        replace hF := xo_u2e (xo_elL hF)
        refine lv_aload_n hx hb d_Mod_town_110 rfl (lv_at hl 0 rfl) ?_
        refine lv_aload_n hx hb d_Mod_town_111 rfl (lv_at hl 0 rfl) ?_
        refine xk_get (C := R_Mod) (T := F_Mod) (N := 23) hx hb hts i_Mod hown hK hP 0 xw_M_at_0 rfl 17 (by decide) u_683 rfl d_Mod_town_112 ?_
        obtain ⟨t14, h_t14, hF⟩ := xo_ob hF
        refine xk_goV (xk_runV (As := [.ref (ad 17)]) (rest := []) hx hb hml hown hts hK hE (fun _ h => h) hP hS ok_Mod_again in_Mod_again u_778 (c_Mod_again l D cI cZ ad A adK adV hDw t5 t14 h_t14) (va_recv hK hP (ci := 4) (q0 := 0) rfl xw_M_at_0) (by decide) rfl hl.1 rfl (Nat.le_of_ble_eq_true rfl) d_Mod_town_115 ⟨Nat.le_refl _, Nat.le_refl _⟩) (fun _ h => h) hS (fun H locs hP hS => ?_)
        refine lv_aload_n hx hb d_Mod_town_118 rfl (lv_at hl 0 rfl) ?_
        refine lv_iconst (v := (0 : Int32)) hx hb d_Mod_town_119 (by decide) ?_
        obtain ⟨t15, e_t15, hF⟩ := xo_nm_e hF
        refine xk_put (C := R_Mod) (T := F_Mod) (N := 23) (ty := .int) hx hb hts i_Mod t_Mod t_Mod_ok n_Mod hown hK hP (hDw _) hS 0 xw_M_at_0 rfl 8 (by decide) u_674 rfl (by decide +kernel) rfl rfl (Nat.le_of_ble_eq_true rfl) (xw_M_put_0_8 _) d_Mod_town_120 (fun H locs hP hS => ?_)
        replace hP : va_P D classes (xw_M ad cI cZ t15) H := by rw [e_t15]; exact hP
        clear e_t15
        refine lv_sipush (v := (-2000 : Int32)) hx hb d_Mod_town_123 (by decide) ?_
        refine lv_iload_n hx hb d_Mod_town_126 rfl (lv_at hl 1 rfl) ?_
        refine lv_isub hx hb d_Mod_town_127 ?_
        obtain ⟨q8, q9⟩ := xo_s2 hF
        subst q8
        subst q9
        exact hret 128 _ _ _ d_Mod_town_128 rfl hP hS
      · intro o6 t7 ey H locs ls hP hS hl
        subst ey
        replace hF := xo_u2e (xo_elR hF)
        refine lv_aload_n hx hb d_Mod_town_142 rfl (lv_at hl 0 rfl) ?_
        refine lv_iconst (v := (0 : Int32)) hx hb d_Mod_town_143 (by decide) ?_
        obtain ⟨t16, e_t16, hF⟩ := xo_nm_e hF
        refine xk_put (C := R_Mod) (T := F_Mod) (N := 23) (ty := .int) hx hb hts i_Mod t_Mod t_Mod_ok n_Mod hown hK hP (hDw _) hS 0 xw_M_at_0 rfl 8 (by decide) u_674 rfl (by decide +kernel) rfl rfl (Nat.le_of_ble_eq_true rfl) (xw_M_put_0_8 _) d_Mod_town_144 (fun H locs hP hS => ?_)
        replace hP : va_P D classes (xw_M ad cI cZ t16) H := by rw [e_t16]; exact hP
        clear e_t16
        refine lv_iload_n hx hb d_Mod_town_147 rfl (lv_at hl 1 rfl) ?_
        obtain ⟨q8, q9⟩ := xo_s2 hF
        subst q8
        subst q9
        exact hret 148 _ _ _ d_Mod_town_148 rfl hP hS
    · replace hF := xo_if_t c_259 hF
      refine lv_aload_n hx hb d_Mod_town_57 rfl (lv_at hl 0 rfl) ?_
      refine lv_iconst (v := (0 : Int32)) hx hb d_Mod_town_58 (by decide) ?_
      obtain ⟨t1, e_t1, hF⟩ := xo_nm_e hF
      refine xk_put (C := R_Mod) (T := F_Mod) (N := 23) (ty := .int) hx hb hts i_Mod t_Mod t_Mod_ok n_Mod hown hK hP (hDw _) hS 0 xw_M_at_0 rfl 8 (by decide) u_674 rfl (by decide +kernel) rfl rfl (Nat.le_of_ble_eq_true rfl) (xw_M_put_0_8 _) d_Mod_town_59 (fun H locs hP hS => ?_)
      replace hP : va_P D classes (xw_M ad cI cZ t1) H := by rw [e_t1]; exact hP
      clear e_t1
      refine lv_sipush (v := (-1000 : Int32)) hx hb d_Mod_town_62 (by decide) ?_
      refine lv_aload_n hx hb d_Mod_town_65 rfl (lv_at hl 0 rfl) ?_
      refine xk_get (C := R_Mod) (T := F_Mod) (N := 23) hx hb hts i_Mod hown hK hP 0 xw_M_at_0 rfl 10 (by decide) u_676 rfl d_Mod_town_66 ?_
      refine lv_isub hx hb d_Mod_town_69 ?_
      obtain ⟨q8, q9⟩ := xo_s2 hF
      subst q8
      subst q9
      exact hret 70 _ _ _ d_Mod_town_70 rfl hP hS
  refine lv_aload_n hx hb d_Mod_town_0 rfl (lv_at hl 0 rfl) ?_
  refine lv_iconst (v := (0 : Int32)) hx hb d_Mod_town_1 (by decide) ?_
  obtain ⟨t17, e_t17, hF⟩ := xo_nm_e hF
  refine xk_put (C := R_Mod) (T := F_Mod) (N := 23) (ty := .int) hx hb hts i_Mod t_Mod t_Mod_ok n_Mod hown hK hP (hDw _) hS 0 xw_M_at_0 rfl 10 (by decide) u_676 rfl (by decide +kernel) rfl rfl (Nat.le_of_ble_eq_true rfl) (xw_M_put_0_10 _) d_Mod_town_2 (fun H locs hP hS => ?_)
  replace hP : va_P D classes (xw_M ad cI cZ t17) H := by rw [e_t17]; exact hP
  clear e_t17
  refine lv_iconst (v := (1 : Int32)) hx hb d_Mod_town_5 (by decide) ?_
  refine lv_istore_n (lv' := [(1, .int (1 : Int32)), (0, .ref (ad 0))]) hx hb d_Mod_town_6 rfl hl (by decide) rfl (fun ls hl => ?_)
  have lp7 : ∀ (n : Nat) (w7_1 : Int32) (w7_s : XS) (y : ((Int32 × XS) ⊕ (Int32 × XS))), xo_lp (fun q : (Int32 × XS) => F_Mod_town_b7 q.1 q.2) n (w7_1, w7_s) = some y → (∀ (e1 : Int32) (es : XS), (.inl (e1, es)) = y → ∀ (H : Heap) (locs : List Loc) (ls : Array Slot), va_P D classes (xw_M ad cI cZ es) H → va_S A s.heap H locs → lv_has ls 4 [(0, .ref (ad 0)), (1, .int e1)] → W p l e (xk_rm 5 113) s m args below meth c H locs 0 0 Q (F0 m 50 ls [])) → (∀ (e1 : Int32) (es : XS), (.inr (e1, es)) = y → ∀ (H : Heap) (locs : List Loc) (ls : Array Slot), va_P D classes (xw_M ad cI cZ es) H → va_S A s.heap H locs → lv_has ls 4 [(0, .ref (ad 0)), (1, .int e1)] → W p l e (xk_rm 5 113) s m args below meth c H locs 0 0 Q (F0 m 53 ls [])) → ∀ (H : Heap) (locs : List Loc) (ls : Array Slot), va_P D classes (xw_M ad cI cZ w7_s) H → va_S A s.heap H locs → lv_has ls 4 [(0, .ref (ad 0)), (1, .int w7_1)] → W p l e (xk_rm 5 113) s m args below meth c H locs 0 0 Q (F0 m 7 ls []) := by
    intro n
    induction n with
    | zero =>
      intro w7_1 w7_s y hL
      exact nomatch (show (none : Option _) = some y from hL)
    | succ n ih =>
      intro w7_1 w7_s y hL kx0 kx1 H locs ls hP hS hl
      obtain ⟨z9, hB, hL⟩ := xo_lp_s hL
      replace hB : F_Mod_town_b7 w7_1 w7_s = some z9 := hB
      unfold F_Mod_town_b7 at hB
      have mg34 : ∀ (k0 : Int32) (xs : XS), F_Mod_town_m34 k0 xs = some z9 → ∀ (H : Heap) (locs : List Loc) (ls : Array Slot), va_P D classes (xw_M ad cI cZ xs) H → va_S A s.heap H locs → lv_has ls 4 [(0, .ref (ad 0))] → W p l e (xk_rm 5 113) s m args below meth c H locs 0 0 Q (F0 m 34 ls [.int k0]) := by
        intro k0 xs hB H locs ls hP hS hl
        unfold F_Mod_town_m34 at hB
        refine lv_istore_n (lv' := [(1, .int k0), (0, .ref (ad 0))]) hx hb d_Mod_town_34 rfl hl (by decide) rfl (fun ls hl => ?_)
        refine lv_iload_n hx hb d_Mod_town_35 rfl (lv_at hl 0 rfl) ?_
        refine lv_if_eq (tgt := 7) hx hb d_Mod_town_36 (by decide) (fun c_262 => ?_) (fun c_262 => ?_)
        · replace hB := xo_if_t c_262 hB
          have q9 := Option.some.inj hB
          subst q9
          exact ih _ _ _ (xo_elL hL) kx0 kx1 _ _ _ hP hS (lv_sub hl [1, 0] rfl)
        · replace hB := xo_if_f c_262 hB
          refine lv_aload_n hx hb d_Mod_town_39 rfl (lv_at hl 1 rfl) ?_
          refine xk_get (C := R_Mod) (T := F_Mod) (N := 23) hx hb hts i_Mod hown hK hP 0 xw_M_at_0 rfl 10 (by decide) u_676 rfl d_Mod_town_40 ?_
          refine lv_aload_n hx hb d_Mod_town_43 rfl (lv_at hl 1 rfl) ?_
          refine xk_get (C := R_Mod) (T := F_Mod) (N := 23) hx hb hts i_Mod hown hK hP 0 xw_M_at_0 rfl 8 (by decide) u_674 rfl d_Mod_town_44 ?_
          refine lv_icmp_ne (tgt := 7) hx hb d_Mod_town_47 (by decide) (fun c_263 => ?_) (fun c_263 => ?_)
          · replace hB := xo_if_f c_263 hB
            have q9 := Option.some.inj hB
            subst q9
            exact ih _ _ _ (xo_elL hL) kx0 kx1 _ _ _ hP hS (lv_sub hl [1, 0] rfl)
          · replace hB := xo_if_t c_263 hB
            have q9 := Option.some.inj hB
            subst q9
            replace hL := Option.some.inj (xo_elR hL)
            subst hL
            exact kx0 _ _ rfl _ _ _ hP hS (lv_sub hl [1, 0] rfl)
      have mg33 : ∀ (xs : XS), F_Mod_town_m33 xs = some z9 → ∀ (H : Heap) (locs : List Loc) (ls : Array Slot), va_P D classes (xw_M ad cI cZ xs) H → va_S A s.heap H locs → lv_has ls 4 [(0, .ref (ad 0))] → W p l e (xk_rm 5 113) s m args below meth c H locs 0 0 Q (F0 m 33 ls []) := by
        intro xs hB H locs ls hP hS hl
        unfold F_Mod_town_m33 at hB
        refine lv_iconst (v := (0 : Int32)) hx hb d_Mod_town_33 (by decide) ?_
        exact mg34 _ _ hB _ _ _ hP hS (lv_sub hl [0] rfl)
      refine lv_iload_n hx hb d_Mod_town_7 rfl (lv_at hl 1 rfl) ?_
      refine lv_if_eq (tgt := 53) hx hb d_Mod_town_8 (by decide) (fun c_264 => ?_) (fun c_264 => ?_)
      · replace hB := xo_if_t c_264 hB
        have q9 := Option.some.inj hB
        subst q9
        replace hL := Option.some.inj (xo_elR hL)
        subst hL
        exact kx1 _ _ rfl _ _ _ hP hS (lv_sub hl [0, 1] rfl)
      · replace hB := xo_if_f c_264 hB
        refine lv_aload_n hx hb d_Mod_town_11 rfl (lv_at hl 0 rfl) ?_
        refine lv_iconst (v := (0 : Int32)) hx hb d_Mod_town_12 (by decide) ?_
        obtain ⟨v22, t23, h_v22, hB⟩ := xo_ob2 hB
        refine xk_goI (xk_runV (As := [.int (0 : Int32)]) (rest := []) hx hb hml hown hts hK hE (fun _ h => h) hP hS ok_Mod_statement in_Mod_statement u_749 (c_Mod_statement l D cI cZ ad A adK adV hDw (0 : Int32) w7_s v22 t23 h_v22) (va_recv hK hP (ci := 4) (q0 := 0) rfl xw_M_at_0) (by decide) rfl hl.1 rfl (Nat.le_of_ble_eq_true rfl) d_Mod_town_13 ⟨Nat.le_refl _, Nat.le_refl _⟩) (fun _ h => h) hS (fun H locs hP hS => ?_)
        refine lv_iconst (v := (1 : Int32)) hx hb d_Mod_town_16 (by decide) ?_
        refine lv_icmp_ne (tgt := 33) hx hb d_Mod_town_17 (by decide) (fun c_265 => ?_) (fun c_265 => ?_)
        · replace hB := xo_if_f c_265 hB
          exact mg33 _ hB _ _ _ hP hS (lv_sub hl [0] rfl)
        · replace hB := xo_if_t c_265 hB
          refine lv_aload_n hx hb d_Mod_town_20 rfl (lv_at hl 0 rfl) ?_
          refine lv_bipush (v := (59 : Int32)) hx hb d_Mod_town_21 (by decide) ?_
          obtain ⟨v24, t25, h_v24, hB⟩ := xo_ob2 hB
          refine xk_goI (xk_runV (As := [.int (59 : Int32)]) (rest := []) hx hb hml hown hts hK hE (fun _ h => h) hP hS ok_Mod_is in_Mod_is u_753 (c_Mod_is l D cI cZ ad A adK adV hDw (59 : Int32) t23 v24 t25 h_v24) (va_recv hK hP (ci := 4) (q0 := 0) rfl xw_M_at_0) (by decide) rfl hl.1 rfl (Nat.le_of_ble_eq_true rfl) d_Mod_town_23 ⟨Nat.le_refl _, Nat.le_refl _⟩) (fun _ h => h) hS (fun H locs hP hS => ?_)
          refine lv_if_eq (tgt := 33) hx hb d_Mod_town_26 (by decide) (fun c_266 => ?_) (fun c_266 => ?_)
          · replace hB := xo_if_t c_266 hB
            exact mg33 _ hB _ _ _ hP hS (lv_sub hl [0] rfl)
          · replace hB := xo_if_f c_266 hB
            refine lv_iconst (v := (1 : Int32)) hx hb d_Mod_town_29 (by decide) ?_
            refine lv_goto (tgt := 34) hx hb d_Mod_town_30 (by decide) ?_
            exact mg34 _ _ hB _ _ _ hP hS (lv_sub hl [0] rfl)
  obtain ⟨y7, hL7, hF⟩ := xo_ob hF
  refine lp7 1000000 (1 : Int32) t17 y7 hL7 ?_ ?_ _ _ _ hP hS (lv_sub hl [1, 0] rfl)
  · intro o18 t19 ey H locs ls hP hS hl
    subst ey
    replace hF := xo_u2e (xo_elL hF)
    refine lv_goto (tgt := 53) hx hb d_Mod_town_50 (by decide) ?_
    exact mg53 _ _ hF _ _ _ hP hS (lv_sub hl [0, 1] rfl)
  · intro o20 t21 ey H locs ls hP hS hl
    subst ey
    replace hF := xo_u2e (xo_elR hF)
    exact mg53 _ _ hF _ _ _ hP hS (lv_sub hl [0, 1] rfl)
set_option maxHeartbeats 4000000 in
set_option maxRecDepth 100000 in
theorem c_Mod_isStreet (l : Launch) (D : va_G) (cI cZ : ClassId) (ad : Nat → Nat) (A : Nat → Prop) (adK adV : Nat → Nat) (hDw : ∀ st : XS, va_D A (xw_M ad cI cZ st)) (x1 : Int32) (st : XS) (r9 : Int32) (hF : F_Mod_isStreet x1 st = some r9) : K_I l D cI cZ A adK adV (xw_M ad cI cZ) y_Mod_isStreet b_Mod_isStreet 2 (some .boolean) 1 22 [.ref (ad 0), .int x1] st r9 st := by
  refine xk_startI (by decide) .boolean rfl (Nat.le_of_ble_eq_true rfl) ?_
  intro p e s m args below meth c Q ls hx hb hml hown hts hK hE hP hS hl hret
  replace hown : s.vm.findClass R_Mod = some m.cls := hown
  replace hl : lv_has ls 2 [(0, .ref (ad 0)), (1, .int x1)] := hl
  unfold F_Mod_isStreet at hF
  refine lv_iload_n hx hb d_Mod_isStreet_0 rfl (lv_at hl 1 rfl) ?_
  refine lv_iconst (v := (0 : Int32)) hx hb d_Mod_isStreet_1 (by decide) ?_
  refine lv_aload_n hx hb d_Mod_isStreet_2 rfl (lv_at hl 0 rfl) ?_
  refine xk_get (C := R_Mod) (T := F_Mod) (N := 23) hx hb hts i_Mod hown hK hP 0 xw_M_at_0 rfl 0 (by decide) u_666 rfl d_Mod_isStreet_3 ?_
  refine lv_iconst (v := (1 : Int32)) hx hb d_Mod_isStreet_6 (by decide) ?_
  refine lv_isub hx hb d_Mod_isStreet_7 ?_
  obtain ⟨v1, h_v1, hF⟩ := xo_ob hF
  refine xk_goI (xk_runS (As := [.int x1, .int (0 : Int32), .int ((st.1 0 0) - (1 : Int32))]) (rest := []) hx hb hml hown hts hK hE (fun _ h => h) hP hS ok_Mod_within st_Mod_within u_765 (c_Mod_within l D cI cZ ad A adK adV hDw x1 (0 : Int32) ((st.1 0 0) - (1 : Int32)) st v1 h_v1) (by decide) rfl hl.1 rfl (Nat.le_of_ble_eq_true rfl) d_Mod_isStreet_8 ⟨Nat.le_refl _, Nat.le_refl _⟩) (fun _ h => h) hS (fun H locs hP hS => ?_)
  obtain ⟨v2, h_v2, hF⟩ := xo_ob hF
  obtain ⟨e_v2, h_v2⟩ := xo_cb_e h_v2
  refine W.eq (g2 := F0 m 11 _ [.int v2]) (by rw [e_v2]) ?_
  have q9 := Option.some.inj hF
  subst q9
  exact hret 11 _ _ _ d_Mod_isStreet_11 (by rcases h_v2 with h | h <;> rw [h] <;> rfl) hP hS
set_option maxHeartbeats 4000000 in
set_option maxRecDepth 100000 in
theorem c_Mod_noFar (l : Launch) (D : va_G) (cI cZ : ClassId) (ad : Nat → Nat) (A : Nat → Prop) (adK adV : Nat → Nat) (hDw : ∀ st : XS, va_D A (xw_M ad cI cZ st)) (x1 : Int32) (st : XS) (r9 : Int32) (st9 : XS) (hF : F_Mod_noFar x1 st = some (r9, st9)) : K_I l D cI cZ A adK adV (xw_M ad cI cZ) y_Mod_noFar b_Mod_noFar 2 (some .int) 1 21 [.ref (ad 0), .int x1] st r9 st9 := by
  refine xk_startI (by decide) .int rfl (Nat.le_of_ble_eq_true rfl) ?_
  intro p e s m args below meth c Q ls hx hb hml hown hts hK hE hP hS hl hret
  replace hown : s.vm.findClass R_Mod = some m.cls := hown
  replace hl : lv_has ls 2 [(0, .ref (ad 0)), (1, .int x1)] := hl
  unfold F_Mod_noFar at hF
  refine lv_ldc (v := (1000000000 : Int32)) hx hb hown (hts _ u_794) d_Mod_noFar_0 ?_
  refine lv_aload_n hx hb d_Mod_noFar_2 rfl (lv_at hl 0 rfl) ?_
  refine lv_iload_n hx hb d_Mod_noFar_3 rfl (lv_at hl 1 rfl) ?_
  obtain ⟨v1, t2, h_v1, hF⟩ := xo_ob2 hF
  refine xk_goI (xk_runV (As := [.int x1]) (rest := [.int (1000000000 : Int32)]) hx hb hml hown hts hK hE (fun _ h => h) hP hS ok_Mod_no in_Mod_no u_741 (c_Mod_no l D cI cZ ad A adK adV hDw x1 st v1 t2 h_v1) (va_recv hK hP (ci := 4) (q0 := 0) rfl xw_M_at_0) (by decide) rfl hl.1 rfl (Nat.le_of_ble_eq_true rfl) d_Mod_noFar_4 ⟨Nat.le_refl _, Nat.le_refl _⟩) (fun _ h => h) hS (fun H locs hP hS => ?_)
  refine lv_isub hx hb d_Mod_noFar_7 ?_
  obtain ⟨q8, q9⟩ := xo_s2 hF
  subst q8
  subst q9
  exact hret 8 _ _ _ d_Mod_noFar_8 rfl hP hS
set_option maxHeartbeats 4000000 in
set_option maxRecDepth 100000 in
theorem c_Mod_sideOfCrossing (l : Launch) (D : va_G) (cI cZ : ClassId) (ad : Nat → Nat) (A : Nat → Prop) (adK adV : Nat → Nat) (hDw : ∀ st : XS, va_D A (xw_M ad cI cZ st)) (x1 : Int32) (x2 : Int32) (x3 : Int32) (st : XS) (r9 : Int32) (hF : F_Mod_sideOfCrossing x1 x2 x3 st = some r9) : K_I l D cI cZ A adK adV (xw_M ad cI cZ) y_Mod_sideOfCrossing b_Mod_sideOfCrossing 8 (some .int) 0 0 [.ref (ad 0), .int x1, .int x2, .int x3] st r9 st := by
  refine xk_startI (by decide) .int rfl (Nat.le_of_ble_eq_true rfl) ?_
  intro p e s m args below meth c Q ls hx hb hml hown hts hK hE hP hS hl hret
  replace hown : s.vm.findClass R_Mod = some m.cls := hown
  replace hl : lv_has ls 8 [(0, .ref (ad 0)), (1, .int x1), (2, .int x2), (3, .int x3)] := hl
  unfold F_Mod_sideOfCrossing at hF
  have mg128 : ∀ (x7 : Int32), F_Mod_sideOfCrossing_m128 x7 st = some r9 → ∀ (H : Heap) (locs : List Loc) (ls : Array Slot), va_P D classes (xw_M ad cI cZ st) H → va_S A s.heap H locs → lv_has ls 8 [(7, .int x7)] → W p l e (xk_rm 0 0) s m args below meth c H locs 0 0 Q (F0 m 128 ls []) := by
    intro x7 hF H locs ls hP hS hl
    unfold F_Mod_sideOfCrossing_m128 at hF
    refine lv_iload hx hb d_Mod_sideOfCrossing_128 (lv_at hl 0 rfl) ?_
    refine lv_if_le (tgt := 137) hx hb d_Mod_sideOfCrossing_130 (by decide) (fun c_267 => ?_) (fun c_267 => ?_)
    · replace hF := xo_if_t c_267 hF
      refine lv_iload hx hb d_Mod_sideOfCrossing_137 (lv_at hl 0 rfl) ?_
      refine lv_if_ge (tgt := 146) hx hb d_Mod_sideOfCrossing_139 (by decide) (fun c_268 => ?_) (fun c_268 => ?_)
      · replace hF := xo_if_t c_268 hF
        refine lv_iconst (v := (0 : Int32)) hx hb d_Mod_sideOfCrossing_146 (by decide) ?_
        have q9 := Option.some.inj hF
        subst q9
        exact hret 147 _ _ _ d_Mod_sideOfCrossing_147 rfl hP hS
      · replace hF := xo_if_f c_268 hF
        refine lv_iconst (v := (-1 : Int32)) hx hb d_Mod_sideOfCrossing_142 (by decide) ?_
        refine lv_goto (tgt := 147) hx hb d_Mod_sideOfCrossing_143 (by decide) ?_
        have q9 := Option.some.inj hF
        subst q9
        exact hret 147 _ _ _ d_Mod_sideOfCrossing_147 rfl hP hS
    · replace hF := xo_if_f c_267 hF
      refine lv_iconst (v := (1 : Int32)) hx hb d_Mod_sideOfCrossing_133 (by decide) ?_
      refine lv_goto (tgt := 147) hx hb d_Mod_sideOfCrossing_134 (by decide) ?_
      have q9 := Option.some.inj hF
      subst q9
      exact hret 147 _ _ _ d_Mod_sideOfCrossing_147 rfl hP hS
  refine lv_aload_n hx hb d_Mod_sideOfCrossing_0 rfl (lv_at hl 0 rfl) ?_
  refine xk_get (C := R_Mod) (T := F_Mod) (N := 23) hx hb hts i_Mod hown hK hP 0 xw_M_at_0 rfl 2 (by decide) u_668 rfl d_Mod_sideOfCrossing_1 ?_
  refine lv_iload_n hx hb d_Mod_sideOfCrossing_4 rfl (lv_at hl 2 rfl) ?_
  obtain ⟨v1, h_v1, hF⟩ := xo_ob hF
  refine xk_iald hx hb hK hP 2 xw_M_at_2 h_v1 d_Mod_sideOfCrossing_5 ?_
  refine lv_aload_n hx hb d_Mod_sideOfCrossing_6 rfl (lv_at hl 0 rfl) ?_
  refine xk_get (C := R_Mod) (T := F_Mod) (N := 23) hx hb hts i_Mod hown hK hP 0 xw_M_at_0 rfl 3 (by decide) u_669 rfl d_Mod_sideOfCrossing_7 ?_
  refine lv_iload_n hx hb d_Mod_sideOfCrossing_10 rfl (lv_at hl 3 rfl) ?_
  obtain ⟨v2, h_v2, hF⟩ := xo_ob hF
  refine xk_iald hx hb hK hP 3 xw_M_at_3 h_v2 d_Mod_sideOfCrossing_11 ?_
  refine lv_imul hx hb d_Mod_sideOfCrossing_12 ?_
  refine lv_aload_n hx hb d_Mod_sideOfCrossing_13 rfl (lv_at hl 0 rfl) ?_
  refine xk_get (C := R_Mod) (T := F_Mod) (N := 23) hx hb hts i_Mod hown hK hP 0 xw_M_at_0 rfl 2 (by decide) u_668 rfl d_Mod_sideOfCrossing_14 ?_
  refine lv_iload_n hx hb d_Mod_sideOfCrossing_17 rfl (lv_at hl 3 rfl) ?_
  obtain ⟨v3, h_v3, hF⟩ := xo_ob hF
  refine xk_iald hx hb hK hP 2 xw_M_at_2 h_v3 d_Mod_sideOfCrossing_18 ?_
  refine lv_aload_n hx hb d_Mod_sideOfCrossing_19 rfl (lv_at hl 0 rfl) ?_
  refine xk_get (C := R_Mod) (T := F_Mod) (N := 23) hx hb hts i_Mod hown hK hP 0 xw_M_at_0 rfl 3 (by decide) u_669 rfl d_Mod_sideOfCrossing_20 ?_
  refine lv_iload_n hx hb d_Mod_sideOfCrossing_23 rfl (lv_at hl 2 rfl) ?_
  obtain ⟨v4, h_v4, hF⟩ := xo_ob hF
  refine xk_iald hx hb hK hP 3 xw_M_at_3 h_v4 d_Mod_sideOfCrossing_24 ?_
  refine lv_imul hx hb d_Mod_sideOfCrossing_25 ?_
  refine lv_isub hx hb d_Mod_sideOfCrossing_26 ?_
  refine lv_topi (fun v5 e_v5 => ?_)
  replace hF := xo_nm_u hF e_v5
  clear e_v5
  refine lv_istore (lv' := [(4, .int v5), (0, .ref (ad 0)), (1, .int x1), (2, .int x2), (3, .int x3)]) hx hb d_Mod_sideOfCrossing_27 hl (by decide) rfl (fun ls hl => ?_)
  refine lv_aload_n hx hb d_Mod_sideOfCrossing_29 rfl (lv_at hl 1 rfl) ?_
  refine xk_get (C := R_Mod) (T := F_Mod) (N := 23) hx hb hts i_Mod hown hK hP 0 xw_M_at_0 rfl 4 (by decide) u_670 rfl d_Mod_sideOfCrossing_30 ?_
  refine lv_iload_n hx hb d_Mod_sideOfCrossing_33 rfl (lv_at hl 3 rfl) ?_
  obtain ⟨v6, h_v6, hF⟩ := xo_ob hF
  refine xk_iald hx hb hK hP 4 xw_M_at_4 h_v6 d_Mod_sideOfCrossing_34 ?_
  refine lv_aload_n hx hb d_Mod_sideOfCrossing_35 rfl (lv_at hl 1 rfl) ?_
  refine xk_get (C := R_Mod) (T := F_Mod) (N := 23) hx hb hts i_Mod hown hK hP 0 xw_M_at_0 rfl 3 (by decide) u_669 rfl d_Mod_sideOfCrossing_36 ?_
  refine lv_iload_n hx hb d_Mod_sideOfCrossing_39 rfl (lv_at hl 4 rfl) ?_
  obtain ⟨v7, h_v7, hF⟩ := xo_ob hF
  refine xk_iald hx hb hK hP 3 xw_M_at_3 h_v7 d_Mod_sideOfCrossing_40 ?_
  refine lv_imul hx hb d_Mod_sideOfCrossing_41 ?_
  refine lv_aload_n hx hb d_Mod_sideOfCrossing_42 rfl (lv_at hl 1 rfl) ?_
  refine xk_get (C := R_Mod) (T := F_Mod) (N := 23) hx hb hts i_Mod hown hK hP 0 xw_M_at_0 rfl 4 (by decide) u_670 rfl d_Mod_sideOfCrossing_43 ?_
  refine lv_iload_n hx hb d_Mod_sideOfCrossing_46 rfl (lv_at hl 4 rfl) ?_
  obtain ⟨v8, h_v8, hF⟩ := xo_ob hF
  refine xk_iald hx hb hK hP 4 xw_M_at_4 h_v8 d_Mod_sideOfCrossing_47 ?_
  refine lv_aload_n hx hb d_Mod_sideOfCrossing_48 rfl (lv_at hl 1 rfl) ?_
  refine xk_get (C := R_Mod) (T := F_Mod) (N := 23) hx hb hts i_Mod hown hK hP 0 xw_M_at_0 rfl 3 (by decide) u_669 rfl d_Mod_sideOfCrossing_49 ?_
  refine lv_iload_n hx hb d_Mod_sideOfCrossing_52 rfl (lv_at hl 3 rfl) ?_
  obtain ⟨v9, h_v9, hF⟩ := xo_ob hF
  refine xk_iald hx hb hK hP 3 xw_M_at_3 h_v9 d_Mod_sideOfCrossing_53 ?_
  refine lv_imul hx hb d_Mod_sideOfCrossing_54 ?_
  refine lv_isub hx hb d_Mod_sideOfCrossing_55 ?_
  refine lv_topi (fun v10 e_v10 => ?_)
  replace hF := xo_nm_u hF e_v10
  clear e_v10
  refine lv_istore (lv' := [(5, .int v10), (4, .int v5), (0, .ref (ad 0)), (1, .int x1), (2, .int x2), (3, .int x3)]) hx hb d_Mod_sideOfCrossing_56 hl (by decide) rfl (fun ls hl => ?_)
  refine lv_aload_n hx hb d_Mod_sideOfCrossing_58 rfl (lv_at hl 2 rfl) ?_
  refine xk_get (C := R_Mod) (T := F_Mod) (N := 23) hx hb hts i_Mod hown hK hP 0 xw_M_at_0 rfl 2 (by decide) u_668 rfl d_Mod_sideOfCrossing_59 ?_
  refine lv_iload_n hx hb d_Mod_sideOfCrossing_62 rfl (lv_at hl 4 rfl) ?_
  obtain ⟨v11, h_v11, hF⟩ := xo_ob hF
  refine xk_iald hx hb hK hP 2 xw_M_at_2 h_v11 d_Mod_sideOfCrossing_63 ?_
  refine lv_aload_n hx hb d_Mod_sideOfCrossing_64 rfl (lv_at hl 2 rfl) ?_
  refine xk_get (C := R_Mod) (T := F_Mod) (N := 23) hx hb hts i_Mod hown hK hP 0 xw_M_at_0 rfl 4 (by decide) u_670 rfl d_Mod_sideOfCrossing_65 ?_
  refine lv_iload_n hx hb d_Mod_sideOfCrossing_68 rfl (lv_at hl 5 rfl) ?_
  obtain ⟨v12, h_v12, hF⟩ := xo_ob hF
  refine xk_iald hx hb hK hP 4 xw_M_at_4 h_v12 d_Mod_sideOfCrossing_69 ?_
  refine lv_imul hx hb d_Mod_sideOfCrossing_70 ?_
  refine lv_aload_n hx hb d_Mod_sideOfCrossing_71 rfl (lv_at hl 2 rfl) ?_
  refine xk_get (C := R_Mod) (T := F_Mod) (N := 23) hx hb hts i_Mod hown hK hP 0 xw_M_at_0 rfl 2 (by decide) u_668 rfl d_Mod_sideOfCrossing_72 ?_
  refine lv_iload_n hx hb d_Mod_sideOfCrossing_75 rfl (lv_at hl 5 rfl) ?_
  obtain ⟨v13, h_v13, hF⟩ := xo_ob hF
  refine xk_iald hx hb hK hP 2 xw_M_at_2 h_v13 d_Mod_sideOfCrossing_76 ?_
  refine lv_aload_n hx hb d_Mod_sideOfCrossing_77 rfl (lv_at hl 2 rfl) ?_
  refine xk_get (C := R_Mod) (T := F_Mod) (N := 23) hx hb hts i_Mod hown hK hP 0 xw_M_at_0 rfl 4 (by decide) u_670 rfl d_Mod_sideOfCrossing_78 ?_
  refine lv_iload_n hx hb d_Mod_sideOfCrossing_81 rfl (lv_at hl 4 rfl) ?_
  obtain ⟨v14, h_v14, hF⟩ := xo_ob hF
  refine xk_iald hx hb hK hP 4 xw_M_at_4 h_v14 d_Mod_sideOfCrossing_82 ?_
  refine lv_imul hx hb d_Mod_sideOfCrossing_83 ?_
  refine lv_isub hx hb d_Mod_sideOfCrossing_84 ?_
  refine lv_topi (fun v15 e_v15 => ?_)
  replace hF := xo_nm_u hF e_v15
  clear e_v15
  refine lv_istore (lv' := [(6, .int v15), (5, .int v10), (4, .int v5), (0, .ref (ad 0)), (1, .int x1), (2, .int x2), (3, .int x3)]) hx hb d_Mod_sideOfCrossing_85 hl (by decide) rfl (fun ls hl => ?_)
  refine lv_aload_n hx hb d_Mod_sideOfCrossing_87 rfl (lv_at hl 3 rfl) ?_
  refine xk_get (C := R_Mod) (T := F_Mod) (N := 23) hx hb hts i_Mod hown hK hP 0 xw_M_at_0 rfl 2 (by decide) u_668 rfl d_Mod_sideOfCrossing_88 ?_
  refine lv_iload_n hx hb d_Mod_sideOfCrossing_91 rfl (lv_at hl 4 rfl) ?_
  obtain ⟨v16, h_v16, hF⟩ := xo_ob hF
  refine xk_iald hx hb hK hP 2 xw_M_at_2 h_v16 d_Mod_sideOfCrossing_92 ?_
  refine lv_iload hx hb d_Mod_sideOfCrossing_93 (lv_at hl 1 rfl) ?_
  refine lv_imul hx hb d_Mod_sideOfCrossing_95 ?_
  refine lv_aload_n hx hb d_Mod_sideOfCrossing_96 rfl (lv_at hl 3 rfl) ?_
  refine xk_get (C := R_Mod) (T := F_Mod) (N := 23) hx hb hts i_Mod hown hK hP 0 xw_M_at_0 rfl 3 (by decide) u_669 rfl d_Mod_sideOfCrossing_97 ?_
  refine lv_iload_n hx hb d_Mod_sideOfCrossing_100 rfl (lv_at hl 4 rfl) ?_
  obtain ⟨v17, h_v17, hF⟩ := xo_ob hF
  refine xk_iald hx hb hK hP 3 xw_M_at_3 h_v17 d_Mod_sideOfCrossing_101 ?_
  refine lv_iload hx hb d_Mod_sideOfCrossing_102 (lv_at hl 0 rfl) ?_
  refine lv_imul hx hb d_Mod_sideOfCrossing_104 ?_
  refine lv_iadd hx hb d_Mod_sideOfCrossing_105 ?_
  refine lv_aload_n hx hb d_Mod_sideOfCrossing_106 rfl (lv_at hl 3 rfl) ?_
  refine xk_get (C := R_Mod) (T := F_Mod) (N := 23) hx hb hts i_Mod hown hK hP 0 xw_M_at_0 rfl 4 (by decide) u_670 rfl d_Mod_sideOfCrossing_107 ?_
  refine lv_iload_n hx hb d_Mod_sideOfCrossing_110 rfl (lv_at hl 4 rfl) ?_
  obtain ⟨v18, h_v18, hF⟩ := xo_ob hF
  refine xk_iald hx hb hK hP 4 xw_M_at_4 h_v18 d_Mod_sideOfCrossing_111 ?_
  refine lv_iload hx hb d_Mod_sideOfCrossing_112 (lv_at hl 2 rfl) ?_
  refine lv_imul hx hb d_Mod_sideOfCrossing_114 ?_
  refine lv_isub hx hb d_Mod_sideOfCrossing_115 ?_
  refine lv_topi (fun v19 e_v19 => ?_)
  replace hF := xo_nm_u hF e_v19
  clear e_v19
  refine lv_istore (lv' := [(7, .int v19), (6, .int v15), (5, .int v10), (4, .int v5), (0, .ref (ad 0)), (1, .int x1), (2, .int x2), (3, .int x3)]) hx hb d_Mod_sideOfCrossing_116 hl (by decide) rfl (fun ls hl => ?_)
  refine lv_iload hx hb d_Mod_sideOfCrossing_118 (lv_at hl 3 rfl) ?_
  refine lv_if_ge (tgt := 128) hx hb d_Mod_sideOfCrossing_120 (by decide) (fun c_269 => ?_) (fun c_269 => ?_)
  · replace hF := xo_if_t c_269 hF
    exact mg128 _ hF _ _ _ hP hS (lv_sub hl [0] rfl)
  · replace hF := xo_if_f c_269 hF
    refine lv_iload hx hb d_Mod_sideOfCrossing_123 (lv_at hl 0 rfl) ?_
    refine lv_ineg hx hb d_Mod_sideOfCrossing_125 ?_
    refine lv_topi (fun v20 e_v20 => ?_)
    replace hF := xo_nm_u hF e_v20
    clear e_v20
    refine lv_istore (lv' := [(7, .int v20), (6, .int v15), (5, .int v10), (4, .int v5), (0, .ref (ad 0)), (1, .int x1), (2, .int x2), (3, .int x3)]) hx hb d_Mod_sideOfCrossing_126 hl (by decide) rfl (fun ls hl => ?_)
    exact mg128 _ hF _ _ _ hP hS (lv_sub hl [0] rfl)
set_option maxHeartbeats 4000000 in
set_option maxRecDepth 100000 in
theorem c_Mod_isFirst (l : Launch) (D : va_G) (cI cZ : ClassId) (ad : Nat → Nat) (A : Nat → Prop) (adK adV : Nat → Nat) (hDw : ∀ st : XS, va_D A (xw_M ad cI cZ st)) (x1 : Int32) (x2 : Int32) (st : XS) (r9 : Int32) (hF : F_Mod_isFirst x1 x2 st = some r9) : K_I l D cI cZ A adK adV (xw_M ad cI cZ) y_Mod_isFirst b_Mod_isFirst 4 (some .boolean) 1 27 [.ref (ad 0), .int x1, .int x2] st r9 st := by
  refine xk_startI (by decide) .boolean rfl (Nat.le_of_ble_eq_true rfl) ?_
  intro p e s m args below meth c Q ls hx hb hml hown hts hK hE hP hS hl hret
  replace hown : s.vm.findClass R_Mod = some m.cls := hown
  replace hl : lv_has ls 4 [(0, .ref (ad 0)), (1, .int x1), (2, .int x2)] := hl
  unfold F_Mod_isFirst at hF
  refine lv_iconst (v := (0 : Int32)) hx hb d_Mod_isFirst_0 (by decide) ?_
  refine lv_istore_n (lv' := [(3, .int (0 : Int32)), (0, .ref (ad 0)), (1, .int x1), (2, .int x2)]) hx hb d_Mod_isFirst_1 rfl hl (by decide) rfl (fun ls hl => ?_)
  have lp2 : ∀ (n : Nat) (w2_3 : Int32) (y : (Unit ⊕ Unit)), xo_lp (fun q : Int32 => F_Mod_isFirst_b2 x1 x2 st q) n w2_3 = some y → ((.inl ()) = y → ∀ (H : Heap) (locs : List Loc) (ls : Array Slot), va_P D classes (xw_M ad cI cZ st) H → va_S A s.heap H locs → lv_has ls 4 [] → W p l e (xk_rm 1 27) s m args below meth c H locs 0 0 Q (F0 m 22 ls [])) → ((.inr ()) = y → ∀ (H : Heap) (locs : List Loc) (ls : Array Slot), va_P D classes (xw_M ad cI cZ st) H → va_S A s.heap H locs → lv_has ls 4 [] → W p l e (xk_rm 1 27) s m args below meth c H locs 0 0 Q (F0 m 30 ls [])) → ∀ (H : Heap) (locs : List Loc) (ls : Array Slot), va_P D classes (xw_M ad cI cZ st) H → va_S A s.heap H locs → lv_has ls 4 [(0, .ref (ad 0)), (1, .int x1), (2, .int x2), (3, .int w2_3)] → W p l e (xk_rm 1 27) s m args below meth c H locs 0 0 Q (F0 m 2 ls []) := by
    intro n
    induction n with
    | zero =>
      intro w2_3 y hL
      exact nomatch (show (none : Option _) = some y from hL)
    | succ n ih =>
      intro w2_3 y hL kx0 kx1 H locs ls hP hS hl
      obtain ⟨z9, hB, hL⟩ := xo_lp_s hL
      replace hB : F_Mod_isFirst_b2 x1 x2 st w2_3 = some z9 := hB
      unfold F_Mod_isFirst_b2 at hB
      refine lv_iload_n hx hb d_Mod_isFirst_2 rfl (lv_at hl 3 rfl) ?_
      refine lv_iload_n hx hb d_Mod_isFirst_3 rfl (lv_at hl 2 rfl) ?_
      refine lv_icmp_ge (tgt := 30) hx hb d_Mod_isFirst_4 (by decide) (fun c_270 => ?_) (fun c_270 => ?_)
      · replace hB := xo_if_t c_270 hB
        have q9 := Option.some.inj hB
        subst q9
        replace hL := Option.some.inj (xo_elR hL)
        subst hL
        exact kx1  rfl _ _ _ hP hS (lv_sub hl [] rfl)
      · replace hB := xo_if_f c_270 hB
        refine lv_iload_n hx hb d_Mod_isFirst_7 rfl (lv_at hl 3 rfl) ?_
        refine lv_iload_n hx hb d_Mod_isFirst_8 rfl (lv_at hl 1 rfl) ?_
        refine lv_icmp_eq (tgt := 24) hx hb d_Mod_isFirst_9 (by decide) (fun c_271 => ?_) (fun c_271 => ?_)
        · replace hB := xo_if_t c_271 hB
          obtain ⟨v1, e_v1, hB⟩ := xo_nm_e hB
          refine lv_iinc (v := v1) (lv' := [(3, .int v1), (0, .ref (ad 0)), (1, .int x1), (2, .int x2)]) hx hb d_Mod_isFirst_24 hl (k := 3) rfl (by rw [e_v1]; rfl) (by decide) rfl (fun ls hl => ?_)
          clear e_v1
          refine lv_goto (tgt := 2) hx hb d_Mod_isFirst_27 (by decide) ?_
          have q9 := Option.some.inj hB
          subst q9
          exact ih _ _ (xo_elL hL) kx0 kx1 _ _ _ hP hS (lv_sub hl [1, 2, 3, 0] rfl)
        · replace hB := xo_if_f c_271 hB
          refine lv_aload_n hx hb d_Mod_isFirst_12 rfl (lv_at hl 0 rfl) ?_
          refine lv_iload_n hx hb d_Mod_isFirst_13 rfl (lv_at hl 3 rfl) ?_
          refine lv_iload_n hx hb d_Mod_isFirst_14 rfl (lv_at hl 1 rfl) ?_
          refine lv_iload_n hx hb d_Mod_isFirst_15 rfl (lv_at hl 2 rfl) ?_
          obtain ⟨v2, h_v2, hB⟩ := xo_ob hB
          refine xk_goI (xk_runV (As := [.int w2_3, .int x1, .int x2]) (rest := []) hx hb hml hown hts hK hE (fun _ h => h) hP hS ok_Mod_sideOfCrossing in_Mod_sideOfCrossing u_807 (c_Mod_sideOfCrossing l D cI cZ ad A adK adV hDw w2_3 x1 x2 st v2 h_v2) (va_recv hK hP (ci := 4) (q0 := 0) rfl xw_M_at_0) (by decide) rfl hl.1 rfl (Nat.le_of_ble_eq_true rfl) d_Mod_isFirst_16 ⟨Nat.le_refl _, Nat.le_refl _⟩) (fun _ h => h) hS (fun H locs hP hS => ?_)
          refine lv_if_ne (tgt := 24) hx hb d_Mod_isFirst_19 (by decide) (fun c_272 => ?_) (fun c_272 => ?_)
          · replace hB := xo_if_f c_272 hB
            obtain ⟨v3, e_v3, hB⟩ := xo_nm_e hB
            refine lv_iinc (v := v3) (lv' := [(3, .int v3), (0, .ref (ad 0)), (1, .int x1), (2, .int x2)]) hx hb d_Mod_isFirst_24 hl (k := 3) rfl (by rw [e_v3]; rfl) (by decide) rfl (fun ls hl => ?_)
            clear e_v3
            refine lv_goto (tgt := 2) hx hb d_Mod_isFirst_27 (by decide) ?_
            have q9 := Option.some.inj hB
            subst q9
            exact ih _ _ (xo_elL hL) kx0 kx1 _ _ _ hP hS (lv_sub hl [1, 2, 3, 0] rfl)
          · replace hB := xo_if_t c_272 hB
            have q9 := Option.some.inj hB
            subst q9
            replace hL := Option.some.inj (xo_elR hL)
            subst hL
            exact kx0  rfl _ _ _ hP hS (lv_sub hl [] rfl)
  obtain ⟨y2, hL2, hF⟩ := xo_ob hF
  refine lp2 1000000 (0 : Int32) y2 hL2 ?_ ?_ _ _ _ hP hS (lv_sub hl [1, 2, 3, 0] rfl)
  · intro  ey H locs ls hP hS hl
    subst ey
    replace hF := xo_elL hF
    refine lv_iconst (v := (0 : Int32)) hx hb d_Mod_isFirst_22 (by decide) ?_
    have q9 := Option.some.inj hF
    subst q9
    exact hret 23 _ _ _ d_Mod_isFirst_23 rfl hP hS
  · intro  ey H locs ls hP hS hl
    subst ey
    replace hF := xo_elR hF
    refine lv_iconst (v := (1 : Int32)) hx hb d_Mod_isFirst_30 (by decide) ?_
    have q9 := Option.some.inj hF
    subst q9
    exact hret 31 _ _ _ d_Mod_isFirst_31 rfl hP hS
set_option maxHeartbeats 4000000 in
set_option maxRecDepth 100000 in
theorem c_Mod_pointsOf (l : Launch) (D : va_G) (cI cZ : ClassId) (ad : Nat → Nat) (A : Nat → Prop) (adK adV : Nat → Nat) (hDw : ∀ st : XS, va_D A (xw_M ad cI cZ st)) (x1 : Int32) (x2 : Int32) (st : XS) (r9 : Int32) (hF : F_Mod_pointsOf x1 x2 st = some r9) : K_I l D cI cZ A adK adV (xw_M ad cI cZ) y_Mod_pointsOf b_Mod_pointsOf 8 (some .int) 2 50 [.ref (ad 0), .int x1, .int x2] st r9 st := by
  refine xk_startI (by decide) .int rfl (Nat.le_of_ble_eq_true rfl) ?_
  intro p e s m args below meth c Q ls hx hb hml hown hts hK hE hP hS hl hret
  replace hown : s.vm.findClass R_Mod = some m.cls := hown
  replace hl : lv_has ls 8 [(0, .ref (ad 0)), (1, .int x1), (2, .int x2)] := hl
  unfold F_Mod_pointsOf at hF
  refine lv_iconst (v := (0 : Int32)) hx hb d_Mod_pointsOf_0 (by decide) ?_
  refine lv_istore_n (lv' := [(3, .int (0 : Int32)), (0, .ref (ad 0)), (1, .int x1), (2, .int x2)]) hx hb d_Mod_pointsOf_1 rfl hl (by decide) rfl (fun ls hl => ?_)
  refine lv_iconst (v := (0 : Int32)) hx hb d_Mod_pointsOf_2 (by decide) ?_
  refine lv_istore (lv' := [(4, .int (0 : Int32)), (3, .int (0 : Int32)), (0, .ref (ad 0)), (1, .int x1), (2, .int x2)]) hx hb d_Mod_pointsOf_3 hl (by decide) rfl (fun ls hl => ?_)
  have lp5 : ∀ (n : Nat) (w5_3 : Int32) (w5_4 : Int32) (y : Int32), xo_lp (fun q : (Int32 × Int32) => F_Mod_pointsOf_b5 x1 x2 st q.1 q.2) n (w5_3, w5_4) = some y → (∀ (e3 : Int32), e3 = y → ∀ (H : Heap) (locs : List Loc) (ls : Array Slot), va_P D classes (xw_M ad cI cZ st) H → va_S A s.heap H locs → lv_has ls 8 [(3, .int e3)] → W p l e (xk_rm 2 50) s m args below meth c H locs 0 0 Q (F0 m 138 ls [])) → ∀ (H : Heap) (locs : List Loc) (ls : Array Slot), va_P D classes (xw_M ad cI cZ st) H → va_S A s.heap H locs → lv_has ls 8 [(0, .ref (ad 0)), (1, .int x1), (2, .int x2), (3, .int w5_3), (4, .int w5_4)] → W p l e (xk_rm 2 50) s m args below meth c H locs 0 0 Q (F0 m 5 ls []) := by
    intro n
    induction n with
    | zero =>
      intro w5_3 w5_4 y hL
      exact nomatch (show (none : Option _) = some y from hL)
    | succ n ih =>
      intro w5_3 w5_4 y hL kx0 H locs ls hP hS hl
      obtain ⟨z9, hB, hL⟩ := xo_lp_s hL
      replace hB : F_Mod_pointsOf_b5 x1 x2 st w5_3 w5_4 = some z9 := hB
      unfold F_Mod_pointsOf_b5 at hB
      refine lv_iload hx hb d_Mod_pointsOf_5 (lv_at hl 4 rfl) ?_
      refine lv_aload_n hx hb d_Mod_pointsOf_7 rfl (lv_at hl 0 rfl) ?_
      refine xk_get (C := R_Mod) (T := F_Mod) (N := 23) hx hb hts i_Mod hown hK hP 0 xw_M_at_0 rfl 0 (by decide) u_666 rfl d_Mod_pointsOf_8 ?_
      refine lv_icmp_ge (tgt := 138) hx hb d_Mod_pointsOf_11 (by decide) (fun c_273 => ?_) (fun c_273 => ?_)
      · replace hB := xo_if_t c_273 hB
        have q9 := Option.some.inj hB
        subst q9
        replace hL := Option.some.inj (xo_elR hL)
        subst hL
        exact kx0 _ rfl _ _ _ hP hS (lv_sub hl [3] rfl)
      · replace hB := xo_if_f c_273 hB
        refine lv_iconst (v := (0 : Int32)) hx hb d_Mod_pointsOf_14 (by decide) ?_
        refine lv_istore (lv' := [(5, .int (0 : Int32)), (0, .ref (ad 0)), (1, .int x1), (2, .int x2), (3, .int w5_3), (4, .int w5_4)]) hx hb d_Mod_pointsOf_15 hl (by decide) rfl (fun ls hl => ?_)
        have lp17 : ∀ (n : Nat) (w17_3 : Int32) (w17_5 : Int32) (y : Int32), xo_lp (fun q : (Int32 × Int32) => F_Mod_pointsOf_b17 x1 x2 w5_4 st q.1 q.2) n (w17_3, w17_5) = some y → (∀ (e3 : Int32), e3 = y → ∀ (H : Heap) (locs : List Loc) (ls : Array Slot), va_P D classes (xw_M ad cI cZ st) H → va_S A s.heap H locs → lv_has ls 8 [(0, .ref (ad 0)), (1, .int x1), (2, .int x2), (3, .int e3), (4, .int w5_4)] → W p l e (xk_rm 2 50) s m args below meth c H locs 0 0 Q (F0 m 132 ls [])) → ∀ (H : Heap) (locs : List Loc) (ls : Array Slot), va_P D classes (xw_M ad cI cZ st) H → va_S A s.heap H locs → lv_has ls 8 [(0, .ref (ad 0)), (1, .int x1), (2, .int x2), (3, .int w17_3), (4, .int w5_4), (5, .int w17_5)] → W p l e (xk_rm 2 50) s m args below meth c H locs 0 0 Q (F0 m 17 ls []) := by
          intro n
          induction n with
          | zero =>
            intro w17_3 w17_5 y hL
            exact nomatch (show (none : Option _) = some y from hL)
          | succ n ih =>
            intro w17_3 w17_5 y hL kx0 H locs ls hP hS hl
            obtain ⟨z9, hB, hL⟩ := xo_lp_s hL
            replace hB : F_Mod_pointsOf_b17 x1 x2 w5_4 st w17_3 w17_5 = some z9 := hB
            unfold F_Mod_pointsOf_b17 at hB
            have mg62 : ∀ (x3 : Int32) (x5 : Int32), F_Mod_pointsOf_m62 x1 x2 x3 w5_4 x5 st = some z9 → ∀ (H : Heap) (locs : List Loc) (ls : Array Slot), va_P D classes (xw_M ad cI cZ st) H → va_S A s.heap H locs → lv_has ls 8 [(0, .ref (ad 0)), (1, .int x1), (2, .int x2), (3, .int x3), (4, .int w5_4), (5, .int x5)] → W p l e (xk_rm 2 50) s m args below meth c H locs 0 0 Q (F0 m 62 ls []) := by
              intro x3 x5 hB H locs ls hP hS hl
              unfold F_Mod_pointsOf_m62 at hB
              refine lv_iconst (v := (0 : Int32)) hx hb d_Mod_pointsOf_62 (by decide) ?_
              refine lv_istore (lv' := [(6, .int (0 : Int32)), (0, .ref (ad 0)), (1, .int x1), (2, .int x2), (3, .int x3), (4, .int w5_4), (5, .int x5)]) hx hb d_Mod_pointsOf_63 hl (by decide) rfl (fun ls hl => ?_)
              refine lv_iconst (v := (0 : Int32)) hx hb d_Mod_pointsOf_65 (by decide) ?_
              refine lv_istore (lv' := [(7, .int (0 : Int32)), (6, .int (0 : Int32)), (0, .ref (ad 0)), (1, .int x1), (2, .int x2), (3, .int x3), (4, .int w5_4), (5, .int x5)]) hx hb d_Mod_pointsOf_66 hl (by decide) rfl (fun ls hl => ?_)
              have lp68 : ∀ (n : Nat) (w68_6 : Int32) (w68_7 : Int32) (y : Int32), xo_lp (fun q : (Int32 × Int32) => F_Mod_pointsOf_b68 x1 x2 x3 w5_4 x5 st q.1 q.2) n (w68_6, w68_7) = some y → (∀ (e6 : Int32), e6 = y → ∀ (H : Heap) (locs : List Loc) (ls : Array Slot), va_P D classes (xw_M ad cI cZ st) H → va_S A s.heap H locs → lv_has ls 8 [(0, .ref (ad 0)), (1, .int x1), (2, .int x2), (3, .int x3), (4, .int w5_4), (5, .int x5), (6, .int e6)] → W p l e (xk_rm 2 50) s m args below meth c H locs 0 0 Q (F0 m 113 ls [])) → ∀ (H : Heap) (locs : List Loc) (ls : Array Slot), va_P D classes (xw_M ad cI cZ st) H → va_S A s.heap H locs → lv_has ls 8 [(0, .ref (ad 0)), (1, .int x1), (2, .int x2), (3, .int x3), (4, .int w5_4), (5, .int x5), (6, .int w68_6), (7, .int w68_7)] → W p l e (xk_rm 2 50) s m args below meth c H locs 0 0 Q (F0 m 68 ls []) := by
                intro n
                induction n with
                | zero =>
                  intro w68_6 w68_7 y hL
                  exact nomatch (show (none : Option _) = some y from hL)
                | succ n ih =>
                  intro w68_6 w68_7 y hL kx0 H locs ls hP hS hl
                  obtain ⟨z9, hB, hL⟩ := xo_lp_s hL
                  replace hB : F_Mod_pointsOf_b68 x1 x2 x3 w5_4 x5 st w68_6 w68_7 = some z9 := hB
                  unfold F_Mod_pointsOf_b68 at hB
                  refine lv_iload hx hb d_Mod_pointsOf_68 (lv_at hl 7 rfl) ?_
                  refine lv_aload_n hx hb d_Mod_pointsOf_70 rfl (lv_at hl 0 rfl) ?_
                  refine xk_get (C := R_Mod) (T := F_Mod) (N := 23) hx hb hts i_Mod hown hK hP 0 xw_M_at_0 rfl 0 (by decide) u_666 rfl d_Mod_pointsOf_71 ?_
                  refine lv_icmp_ge (tgt := 113) hx hb d_Mod_pointsOf_74 (by decide) (fun c_274 => ?_) (fun c_274 => ?_)
                  · replace hB := xo_if_t c_274 hB
                    have q9 := Option.some.inj hB
                    subst q9
                    replace hL := Option.some.inj (xo_elR hL)
                    subst hL
                    exact kx0 _ rfl _ _ _ hP hS (lv_sub hl [0, 1, 2, 3, 4, 5, 6] rfl)
                  · replace hB := xo_if_f c_274 hB
                    refine lv_iload hx hb d_Mod_pointsOf_77 (lv_at hl 7 rfl) ?_
                    refine lv_iload hx hb d_Mod_pointsOf_79 (lv_at hl 5 rfl) ?_
                    refine lv_icmp_eq (tgt := 104) hx hb d_Mod_pointsOf_81 (by decide) (fun c_275 => ?_) (fun c_275 => ?_)
                    · replace hB := xo_if_t c_275 hB
                      obtain ⟨v4, e_v4, hB⟩ := xo_nm_e hB
                      refine lv_iinc (v := v4) (lv' := [(6, .int v4), (0, .ref (ad 0)), (1, .int x1), (2, .int x2), (3, .int x3), (4, .int w5_4), (5, .int x5), (7, .int w68_7)]) hx hb d_Mod_pointsOf_104 hl (k := 6) rfl (by rw [e_v4]; rfl) (by decide) rfl (fun ls hl => ?_)
                      clear e_v4
                      obtain ⟨v5, e_v5, hB⟩ := xo_nm_e hB
                      refine lv_iinc (v := v5) (lv' := [(7, .int v5), (6, .int v4), (0, .ref (ad 0)), (1, .int x1), (2, .int x2), (3, .int x3), (4, .int w5_4), (5, .int x5)]) hx hb d_Mod_pointsOf_107 hl (k := 7) rfl (by rw [e_v5]; rfl) (by decide) rfl (fun ls hl => ?_)
                      clear e_v5
                      refine lv_goto (tgt := 68) hx hb d_Mod_pointsOf_110 (by decide) ?_
                      have q9 := Option.some.inj hB
                      subst q9
                      exact ih _ _ _ (xo_elL hL) kx0 _ _ _ hP hS (lv_sub hl [2, 3, 4, 5, 6, 7, 1, 0] rfl)
                    · replace hB := xo_if_f c_275 hB
                      refine lv_iload hx hb d_Mod_pointsOf_84 (lv_at hl 7 rfl) ?_
                      refine lv_iload hx hb d_Mod_pointsOf_86 (lv_at hl 4 rfl) ?_
                      refine lv_icmp_eq (tgt := 104) hx hb d_Mod_pointsOf_88 (by decide) (fun c_276 => ?_) (fun c_276 => ?_)
                      · replace hB := xo_if_t c_276 hB
                        obtain ⟨v6, e_v6, hB⟩ := xo_nm_e hB
                        refine lv_iinc (v := v6) (lv' := [(6, .int v6), (0, .ref (ad 0)), (1, .int x1), (2, .int x2), (3, .int x3), (4, .int w5_4), (5, .int x5), (7, .int w68_7)]) hx hb d_Mod_pointsOf_104 hl (k := 6) rfl (by rw [e_v6]; rfl) (by decide) rfl (fun ls hl => ?_)
                        clear e_v6
                        obtain ⟨v7, e_v7, hB⟩ := xo_nm_e hB
                        refine lv_iinc (v := v7) (lv' := [(7, .int v7), (6, .int v6), (0, .ref (ad 0)), (1, .int x1), (2, .int x2), (3, .int x3), (4, .int w5_4), (5, .int x5)]) hx hb d_Mod_pointsOf_107 hl (k := 7) rfl (by rw [e_v7]; rfl) (by decide) rfl (fun ls hl => ?_)
                        clear e_v7
                        refine lv_goto (tgt := 68) hx hb d_Mod_pointsOf_110 (by decide) ?_
                        have q9 := Option.some.inj hB
                        subst q9
                        exact ih _ _ _ (xo_elL hL) kx0 _ _ _ hP hS (lv_sub hl [2, 3, 4, 5, 6, 7, 1, 0] rfl)
                      · replace hB := xo_if_f c_276 hB
                        refine lv_aload_n hx hb d_Mod_pointsOf_91 rfl (lv_at hl 0 rfl) ?_
                        refine lv_iload hx hb d_Mod_pointsOf_92 (lv_at hl 7 rfl) ?_
                        refine lv_iload hx hb d_Mod_pointsOf_94 (lv_at hl 5 rfl) ?_
                        refine lv_iload hx hb d_Mod_pointsOf_96 (lv_at hl 4 rfl) ?_
                        obtain ⟨v8, h_v8, hB⟩ := xo_ob hB
                        refine xk_goI (xk_runV (As := [.int w68_7, .int x5, .int w5_4]) (rest := []) hx hb hml hown hts hK hE (fun _ h => h) hP hS ok_Mod_sideOfCrossing in_Mod_sideOfCrossing u_807 (c_Mod_sideOfCrossing l D cI cZ ad A adK adV hDw w68_7 x5 w5_4 st v8 h_v8) (va_recv hK hP (ci := 4) (q0 := 0) rfl xw_M_at_0) (by decide) rfl hl.1 rfl (Nat.le_of_ble_eq_true rfl) d_Mod_pointsOf_98 ⟨Nat.le_refl _, Nat.le_refl _⟩) (fun _ h => h) hS (fun H locs hP hS => ?_)
                        refine lv_if_ne (tgt := 107) hx hb d_Mod_pointsOf_101 (by decide) (fun c_277 => ?_) (fun c_277 => ?_)
                        · replace hB := xo_if_f c_277 hB
                          obtain ⟨v11, e_v11, hB⟩ := xo_nm_e hB
                          refine lv_iinc (v := v11) (lv' := [(7, .int v11), (0, .ref (ad 0)), (1, .int x1), (2, .int x2), (3, .int x3), (4, .int w5_4), (5, .int x5), (6, .int w68_6)]) hx hb d_Mod_pointsOf_107 hl (k := 7) rfl (by rw [e_v11]; rfl) (by decide) rfl (fun ls hl => ?_)
                          clear e_v11
                          refine lv_goto (tgt := 68) hx hb d_Mod_pointsOf_110 (by decide) ?_
                          have q9 := Option.some.inj hB
                          subst q9
                          exact ih _ _ _ (xo_elL hL) kx0 _ _ _ hP hS (lv_sub hl [1, 2, 3, 4, 5, 6, 7, 0] rfl)
                        · replace hB := xo_if_t c_277 hB
                          obtain ⟨v9, e_v9, hB⟩ := xo_nm_e hB
                          refine lv_iinc (v := v9) (lv' := [(6, .int v9), (0, .ref (ad 0)), (1, .int x1), (2, .int x2), (3, .int x3), (4, .int w5_4), (5, .int x5), (7, .int w68_7)]) hx hb d_Mod_pointsOf_104 hl (k := 6) rfl (by rw [e_v9]; rfl) (by decide) rfl (fun ls hl => ?_)
                          clear e_v9
                          obtain ⟨v10, e_v10, hB⟩ := xo_nm_e hB
                          refine lv_iinc (v := v10) (lv' := [(7, .int v10), (6, .int v9), (0, .ref (ad 0)), (1, .int x1), (2, .int x2), (3, .int x3), (4, .int w5_4), (5, .int x5)]) hx hb d_Mod_pointsOf_107 hl (k := 7) rfl (by rw [e_v10]; rfl) (by decide) rfl (fun ls hl => ?_)
                          clear e_v10
                          refine lv_goto (tgt := 68) hx hb d_Mod_pointsOf_110 (by decide) ?_
                          have q9 := Option.some.inj hB
                          subst q9
                          exact ih _ _ _ (xo_elL hL) kx0 _ _ _ hP hS (lv_sub hl [2, 3, 4, 5, 6, 7, 1, 0] rfl)
              obtain ⟨y68, hL68, hB⟩ := xo_ob hB
              refine lp68 1000000 (0 : Int32) (0 : Int32) y68 hL68 ?_ _ _ _ hP hS (lv_sub hl [2, 3, 4, 5, 6, 7, 1, 0] rfl)
              intro o3 ey H locs ls hP hS hl
              subst ey
              refine lv_iload_n hx hb d_Mod_pointsOf_113 rfl (lv_at hl 2 rfl) ?_
              refine lv_if_eq (tgt := 123) hx hb d_Mod_pointsOf_114 (by decide) (fun c_278 => ?_) (fun c_278 => ?_)
              · replace hB := xo_if_t c_278 hB
                obtain ⟨v12, e_v12, hB⟩ := xo_nm_e hB
                refine lv_iinc (v := v12) (lv' := [(3, .int v12), (0, .ref (ad 0)), (1, .int x1), (2, .int x2), (4, .int w5_4), (5, .int x5), (6, .int o3)]) hx hb d_Mod_pointsOf_123 hl (k := 3) rfl (by rw [e_v12]; rfl) (by decide) rfl (fun ls hl => ?_)
                clear e_v12
                obtain ⟨v13, e_v13, hB⟩ := xo_nm_e hB
                refine lv_iinc (v := v13) (lv' := [(5, .int v13), (3, .int v12), (0, .ref (ad 0)), (1, .int x1), (2, .int x2), (4, .int w5_4), (6, .int o3)]) hx hb d_Mod_pointsOf_126 hl (k := 5) rfl (by rw [e_v13]; rfl) (by decide) rfl (fun ls hl => ?_)
                clear e_v13
                refine lv_goto (tgt := 17) hx hb d_Mod_pointsOf_129 (by decide) ?_
                have q9 := Option.some.inj hB
                subst q9
                exact ih _ _ _ (xo_elL hL) kx0 _ _ _ hP hS (lv_sub hl [2, 3, 4, 1, 5, 0] rfl)
              · replace hB := xo_if_f c_278 hB
                refine lv_iload hx hb d_Mod_pointsOf_117 (lv_at hl 6 rfl) ?_
                refine lv_iconst (v := (2 : Int32)) hx hb d_Mod_pointsOf_119 (by decide) ?_
                refine lv_icmp_le (tgt := 126) hx hb d_Mod_pointsOf_120 (by decide) (fun c_279 => ?_) (fun c_279 => ?_)
                · replace hB := xo_if_t c_279 hB
                  obtain ⟨v14, e_v14, hB⟩ := xo_nm_e hB
                  refine lv_iinc (v := v14) (lv' := [(5, .int v14), (0, .ref (ad 0)), (1, .int x1), (2, .int x2), (3, .int x3), (4, .int w5_4), (6, .int o3)]) hx hb d_Mod_pointsOf_126 hl (k := 5) rfl (by rw [e_v14]; rfl) (by decide) rfl (fun ls hl => ?_)
                  clear e_v14
                  refine lv_goto (tgt := 17) hx hb d_Mod_pointsOf_129 (by decide) ?_
                  have q9 := Option.some.inj hB
                  subst q9
                  exact ih _ _ _ (xo_elL hL) kx0 _ _ _ hP hS (lv_sub hl [1, 2, 3, 4, 5, 0] rfl)
                · replace hB := xo_if_f c_279 hB
                  obtain ⟨v15, e_v15, hB⟩ := xo_nm_e hB
                  refine lv_iinc (v := v15) (lv' := [(3, .int v15), (0, .ref (ad 0)), (1, .int x1), (2, .int x2), (4, .int w5_4), (5, .int x5), (6, .int o3)]) hx hb d_Mod_pointsOf_123 hl (k := 3) rfl (by rw [e_v15]; rfl) (by decide) rfl (fun ls hl => ?_)
                  clear e_v15
                  obtain ⟨v16, e_v16, hB⟩ := xo_nm_e hB
                  refine lv_iinc (v := v16) (lv' := [(5, .int v16), (3, .int v15), (0, .ref (ad 0)), (1, .int x1), (2, .int x2), (4, .int w5_4), (6, .int o3)]) hx hb d_Mod_pointsOf_126 hl (k := 5) rfl (by rw [e_v16]; rfl) (by decide) rfl (fun ls hl => ?_)
                  clear e_v16
                  refine lv_goto (tgt := 17) hx hb d_Mod_pointsOf_129 (by decide) ?_
                  have q9 := Option.some.inj hB
                  subst q9
                  exact ih _ _ _ (xo_elL hL) kx0 _ _ _ hP hS (lv_sub hl [2, 3, 4, 1, 5, 0] rfl)
            refine lv_iload hx hb d_Mod_pointsOf_17 (lv_at hl 5 rfl) ?_
            refine lv_iload hx hb d_Mod_pointsOf_19 (lv_at hl 4 rfl) ?_
            refine lv_icmp_ge (tgt := 132) hx hb d_Mod_pointsOf_21 (by decide) (fun c_280 => ?_) (fun c_280 => ?_)
            · replace hB := xo_if_t c_280 hB
              have q9 := Option.some.inj hB
              subst q9
              replace hL := Option.some.inj (xo_elR hL)
              subst hL
              exact kx0 _ rfl _ _ _ hP hS (lv_sub hl [0, 1, 2, 3, 4] rfl)
            · replace hB := xo_if_f c_280 hB
              refine lv_aload_n hx hb d_Mod_pointsOf_24 rfl (lv_at hl 0 rfl) ?_
              refine lv_iload hx hb d_Mod_pointsOf_25 (lv_at hl 5 rfl) ?_
              refine lv_iload hx hb d_Mod_pointsOf_27 (lv_at hl 4 rfl) ?_
              obtain ⟨v17, h_v17, hB⟩ := xo_ob hB
              refine xk_goI (xk_runV (As := [.int w17_5, .int w5_4]) (rest := []) hx hb hml hown hts hK hE (fun _ h => h) hP hS ok_Mod_isFirst in_Mod_isFirst u_803 (c_Mod_isFirst l D cI cZ ad A adK adV hDw w17_5 w5_4 st v17 h_v17) (va_recv hK hP (ci := 4) (q0 := 0) rfl xw_M_at_0) (by decide) rfl hl.1 rfl (Nat.le_of_ble_eq_true rfl) d_Mod_pointsOf_29 ⟨Nat.le_refl _, Nat.le_refl _⟩) (fun _ h => h) hS (fun H locs hP hS => ?_)
              refine lv_if_eq (tgt := 126) hx hb d_Mod_pointsOf_32 (by decide) (fun c_281 => ?_) (fun c_281 => ?_)
              · replace hB := xo_if_t c_281 hB
                obtain ⟨v18, e_v18, hB⟩ := xo_nm_e hB
                refine lv_iinc (v := v18) (lv' := [(5, .int v18), (0, .ref (ad 0)), (1, .int x1), (2, .int x2), (3, .int w17_3), (4, .int w5_4)]) hx hb d_Mod_pointsOf_126 hl (k := 5) rfl (by rw [e_v18]; rfl) (by decide) rfl (fun ls hl => ?_)
                clear e_v18
                refine lv_goto (tgt := 17) hx hb d_Mod_pointsOf_129 (by decide) ?_
                have q9 := Option.some.inj hB
                subst q9
                exact ih _ _ _ (xo_elL hL) kx0 _ _ _ hP hS (lv_sub hl [1, 2, 3, 4, 5, 0] rfl)
              · replace hB := xo_if_f c_281 hB
                refine lv_iload hx hb d_Mod_pointsOf_35 (lv_at hl 5 rfl) ?_
                refine lv_iload_n hx hb d_Mod_pointsOf_37 rfl (lv_at hl 1 rfl) ?_
                refine lv_icmp_eq (tgt := 62) hx hb d_Mod_pointsOf_38 (by decide) (fun c_282 => ?_) (fun c_282 => ?_)
                · replace hB := xo_if_t c_282 hB
                  exact mg62 _ _ hB _ _ _ hP hS (lv_sub hl [0, 1, 2, 3, 4, 5] rfl)
                · replace hB := xo_if_f c_282 hB
                  refine lv_iload hx hb d_Mod_pointsOf_41 (lv_at hl 4 rfl) ?_
                  refine lv_iload_n hx hb d_Mod_pointsOf_43 rfl (lv_at hl 1 rfl) ?_
                  refine lv_icmp_eq (tgt := 62) hx hb d_Mod_pointsOf_44 (by decide) (fun c_283 => ?_) (fun c_283 => ?_)
                  · replace hB := xo_if_t c_283 hB
                    exact mg62 _ _ hB _ _ _ hP hS (lv_sub hl [0, 1, 2, 3, 4, 5] rfl)
                  · replace hB := xo_if_f c_283 hB
                    refine lv_aload_n hx hb d_Mod_pointsOf_47 rfl (lv_at hl 0 rfl) ?_
                    refine lv_iload_n hx hb d_Mod_pointsOf_48 rfl (lv_at hl 1 rfl) ?_
                    refine lv_iload hx hb d_Mod_pointsOf_49 (lv_at hl 5 rfl) ?_
                    refine lv_iload hx hb d_Mod_pointsOf_51 (lv_at hl 4 rfl) ?_
                    obtain ⟨v19, h_v19, hB⟩ := xo_ob hB
                    refine xk_goI (xk_runV (As := [.int x1, .int w17_5, .int w5_4]) (rest := []) hx hb hml hown hts hK hE (fun _ h => h) hP hS ok_Mod_sideOfCrossing in_Mod_sideOfCrossing u_807 (c_Mod_sideOfCrossing l D cI cZ ad A adK adV hDw x1 w17_5 w5_4 st v19 h_v19) (va_recv hK hP (ci := 4) (q0 := 0) rfl xw_M_at_0) (by decide) rfl hl.1 rfl (Nat.le_of_ble_eq_true rfl) d_Mod_pointsOf_53 ⟨Nat.le_refl _, Nat.le_refl _⟩) (fun _ h => h) hS (fun H locs hP hS => ?_)
                    refine lv_if_eq (tgt := 62) hx hb d_Mod_pointsOf_56 (by decide) (fun c_284 => ?_) (fun c_284 => ?_)
                    · replace hB := xo_if_t c_284 hB
                      exact mg62 _ _ hB _ _ _ hP hS (lv_sub hl [0, 1, 2, 3, 4, 5] rfl)
                    · replace hB := xo_if_f c_284 hB
                      refine lv_goto (tgt := 126) hx hb d_Mod_pointsOf_59 (by decide) ?_
                      obtain ⟨v20, e_v20, hB⟩ := xo_nm_e hB
                      refine lv_iinc (v := v20) (lv' := [(5, .int v20), (0, .ref (ad 0)), (1, .int x1), (2, .int x2), (3, .int w17_3), (4, .int w5_4)]) hx hb d_Mod_pointsOf_126 hl (k := 5) rfl (by rw [e_v20]; rfl) (by decide) rfl (fun ls hl => ?_)
                      clear e_v20
                      refine lv_goto (tgt := 17) hx hb d_Mod_pointsOf_129 (by decide) ?_
                      have q9 := Option.some.inj hB
                      subst q9
                      exact ih _ _ _ (xo_elL hL) kx0 _ _ _ hP hS (lv_sub hl [1, 2, 3, 4, 5, 0] rfl)
        obtain ⟨y17, hL17, hB⟩ := xo_ob hB
        refine lp17 1000000 w5_3 (0 : Int32) y17 hL17 ?_ _ _ _ hP hS (lv_sub hl [1, 2, 3, 4, 5, 0] rfl)
        intro o2 ey H locs ls hP hS hl
        subst ey
        obtain ⟨v21, e_v21, hB⟩ := xo_nm_e hB
        refine lv_iinc (v := v21) (lv' := [(4, .int v21), (0, .ref (ad 0)), (1, .int x1), (2, .int x2), (3, .int o2)]) hx hb d_Mod_pointsOf_132 hl (k := 4) rfl (by rw [e_v21]; rfl) (by decide) rfl (fun ls hl => ?_)
        clear e_v21
        refine lv_goto (tgt := 5) hx hb d_Mod_pointsOf_135 (by decide) ?_
        have q9 := Option.some.inj hB
        subst q9
        exact ih _ _ _ (xo_elL hL) kx0 _ _ _ hP hS (lv_sub hl [1, 2, 3, 4, 0] rfl)
  obtain ⟨y5, hL5, hF⟩ := xo_ob hF
  refine lp5 1000000 (0 : Int32) (0 : Int32) y5 hL5 ?_ _ _ _ hP hS (lv_sub hl [2, 3, 4, 1, 0] rfl)
  intro o1 ey H locs ls hP hS hl
  subst ey
  refine lv_iload_n hx hb d_Mod_pointsOf_138 rfl (lv_at hl 0 rfl) ?_
  have q9 := Option.some.inj hF
  subst q9
  exact hret 139 _ _ _ d_Mod_pointsOf_139 rfl hP hS
set_option maxHeartbeats 4000000 in
set_option maxRecDepth 100000 in
theorem c_Mod_lampsOf (l : Launch) (D : va_G) (cI cZ : ClassId) (ad : Nat → Nat) (A : Nat → Prop) (adK adV : Nat → Nat) (hDw : ∀ st : XS, va_D A (xw_M ad cI cZ st)) (x1 : Int32) (st : XS) (r9 : Int32) (hF : F_Mod_lampsOf x1 st = some r9) : K_I l D cI cZ A adK adV (xw_M ad cI cZ) y_Mod_lampsOf b_Mod_lampsOf 3 (some .int) 3 77 [.ref (ad 0), .int x1] st r9 st := by
  refine xk_startI (by decide) .int rfl (Nat.le_of_ble_eq_true rfl) ?_
  intro p e s m args below meth c Q ls hx hb hml hown hts hK hE hP hS hl hret
  replace hown : s.vm.findClass R_Mod = some m.cls := hown
  replace hl : lv_has ls 3 [(0, .ref (ad 0)), (1, .int x1)] := hl
  unfold F_Mod_lampsOf at hF
  refine lv_aload_n hx hb d_Mod_lampsOf_0 rfl (lv_at hl 0 rfl) ?_
  refine lv_iload_n hx hb d_Mod_lampsOf_1 rfl (lv_at hl 1 rfl) ?_
  refine lv_iconst (v := (0 : Int32)) hx hb d_Mod_lampsOf_2 (by decide) ?_
  obtain ⟨v1, h_v1, hF⟩ := xo_ob hF
  refine xk_goI (xk_runV (As := [.int x1, .int (0 : Int32)]) (rest := []) hx hb hml hown hts hK hE (fun _ h => h) hP hS ok_Mod_pointsOf in_Mod_pointsOf u_799 (c_Mod_pointsOf l D cI cZ ad A adK adV hDw x1 (0 : Int32) st v1 h_v1) (va_recv hK hP (ci := 4) (q0 := 0) rfl xw_M_at_0) (by decide) rfl hl.1 rfl (Nat.le_of_ble_eq_true rfl) d_Mod_lampsOf_3 ⟨Nat.le_refl _, Nat.le_refl _⟩) (fun _ h => h) hS (fun H locs hP hS => ?_)
  refine lv_istore_n (lv' := [(2, .int v1), (0, .ref (ad 0)), (1, .int x1)]) hx hb d_Mod_lampsOf_6 rfl hl (by decide) rfl (fun ls hl => ?_)
  refine lv_aload_n hx hb d_Mod_lampsOf_7 rfl (lv_at hl 1 rfl) ?_
  refine xk_get (C := R_Mod) (T := F_Mod) (N := 23) hx hb hts i_Mod hown hK hP 0 xw_M_at_0 rfl 1 (by decide) u_667 rfl d_Mod_lampsOf_8 ?_
  refine lv_iload_n hx hb d_Mod_lampsOf_11 rfl (lv_at hl 2 rfl) ?_
  obtain ⟨v2, h_v2, hF⟩ := xo_ob hF
  refine xk_iald hx hb hK hP 1 xw_M_at_1 h_v2 d_Mod_lampsOf_12 ?_
  by_cases c_285 : v2 = (0 : Int32)
  · replace hF := xo_if_t c_285 hF
    refine lv_tableIn (off := 35) (tgt := 48) hx hb d_Mod_lampsOf_13 (by rw [c_285]; decide) (by rw [c_285]; decide) (by rw [c_285]; decide) (by decide) ?_
    refine lv_iload_n hx hb d_Mod_lampsOf_48 rfl (lv_at hl 0 rfl) ?_
    have q9 := Option.some.inj hF
    subst q9
    exact hret 49 _ _ _ d_Mod_lampsOf_49 rfl hP hS
  · replace hF := xo_if_f c_285 hF
    by_cases c_286 : v2 = (1 : Int32)
    · replace hF := xo_if_t c_286 hF
      refine lv_tableIn (off := 37) (tgt := 50) hx hb d_Mod_lampsOf_13 (by rw [c_286]; decide) (by rw [c_286]; decide) (by rw [c_286]; decide) (by decide) ?_
      refine lv_iconst (v := (2 : Int32)) hx hb d_Mod_lampsOf_50 (by decide) ?_
      refine lv_iload_n hx hb d_Mod_lampsOf_51 rfl (lv_at hl 0 rfl) ?_
      refine lv_imul hx hb d_Mod_lampsOf_52 ?_
      have q9 := Option.some.inj hF
      subst q9
      exact hret 53 _ _ _ d_Mod_lampsOf_53 rfl hP hS
    · replace hF := xo_if_f c_286 hF
      by_cases c_287 : v2 = (2 : Int32)
      · replace hF := xo_if_t c_287 hF
        refine lv_tableIn (off := 41) (tgt := 54) hx hb d_Mod_lampsOf_13 (by rw [c_287]; decide) (by rw [c_287]; decide) (by rw [c_287]; decide) (by decide) ?_
        refine lv_iconst (v := (0 : Int32)) hx hb d_Mod_lampsOf_54 (by decide) ?_
        have q9 := Option.some.inj hF
        subst q9
        exact hret 55 _ _ _ d_Mod_lampsOf_55 rfl hP hS
      · replace hF := xo_if_f c_287 hF
        by_cases c_288 : v2 = (3 : Int32)
        · replace hF := xo_if_t c_288 hF
          refine lv_tableIn (off := 43) (tgt := 56) hx hb d_Mod_lampsOf_13 (by rw [c_288]; decide) (by rw [c_288]; decide) (by rw [c_288]; decide) (by decide) ?_
          refine lv_iconst (v := (2 : Int32)) hx hb d_Mod_lampsOf_56 (by decide) ?_
          refine lv_iload_n hx hb d_Mod_lampsOf_57 rfl (lv_at hl 0 rfl) ?_
          refine lv_imul hx hb d_Mod_lampsOf_58 ?_
          refine lv_iconst (v := (5 : Int32)) hx hb d_Mod_lampsOf_59 (by decide) ?_
          refine lv_aload_n hx hb d_Mod_lampsOf_60 rfl (lv_at hl 1 rfl) ?_
          refine lv_iload_n hx hb d_Mod_lampsOf_61 rfl (lv_at hl 2 rfl) ?_
          refine lv_iconst (v := (1 : Int32)) hx hb d_Mod_lampsOf_62 (by decide) ?_
          obtain ⟨v3, h_v3, hF⟩ := xo_ob hF
          refine xk_goI (xk_runV (As := [.int x1, .int (1 : Int32)]) (rest := [.int (5 : Int32), .int ((2 : Int32) * v1)]) hx hb hml hown hts hK hE (fun _ h => h) hP hS ok_Mod_pointsOf in_Mod_pointsOf u_799 (c_Mod_pointsOf l D cI cZ ad A adK adV hDw x1 (1 : Int32) st v3 h_v3) (va_recv hK hP (ci := 4) (q0 := 0) rfl xw_M_at_0) (by decide) rfl hl.1 rfl (Nat.le_of_ble_eq_true rfl) d_Mod_lampsOf_63 ⟨Nat.le_refl _, Nat.le_refl _⟩) (fun _ h => h) hS (fun H locs hP hS => ?_)
          refine lv_imul hx hb d_Mod_lampsOf_66 ?_
          refine lv_iadd hx hb d_Mod_lampsOf_67 ?_
          have q9 := Option.some.inj hF
          subst q9
          exact hret 68 _ _ _ d_Mod_lampsOf_68 rfl hP hS
        · replace hF := xo_if_f c_288 hF
          by_cases c_289 : v2 = (4 : Int32)
          · replace hF := xo_if_t c_289 hF
            refine lv_tableIn (off := 56) (tgt := 69) hx hb d_Mod_lampsOf_13 (by rw [c_289]; decide) (by rw [c_289]; decide) (by rw [c_289]; decide) (by decide) ?_
            refine lv_iconst (v := (1 : Int32)) hx hb d_Mod_lampsOf_69 (by decide) ?_
            refine lv_iload_n hx hb d_Mod_lampsOf_70 rfl (lv_at hl 2 rfl) ?_
            refine lv_iadd hx hb d_Mod_lampsOf_71 ?_
            refine lv_iload_n hx hb d_Mod_lampsOf_72 rfl (lv_at hl 0 rfl) ?_
            refine lv_imul hx hb d_Mod_lampsOf_73 ?_
            have q9 := Option.some.inj hF
            subst q9
            exact hret 74 _ _ _ d_Mod_lampsOf_74 rfl hP hS
          · replace hF := xo_if_f c_289 hF
            refine lv_tableOut (tgt := 75) hx hb d_Mod_lampsOf_13 (xk_out_0_4 c_285 c_286 c_287 c_288 c_289) (by decide) ?_
            refine lv_iload_n hx hb d_Mod_lampsOf_75 rfl (lv_at hl 2 rfl) ?_
            refine lv_aload_n hx hb d_Mod_lampsOf_76 rfl (lv_at hl 1 rfl) ?_
            refine xk_get (C := R_Mod) (T := F_Mod) (N := 23) hx hb hts i_Mod hown hK hP 0 xw_M_at_0 rfl 0 (by decide) u_666 rfl d_Mod_lampsOf_77 ?_
            refine lv_iconst (v := (1 : Int32)) hx hb d_Mod_lampsOf_80 (by decide) ?_
            refine lv_isub hx hb d_Mod_lampsOf_81 ?_
            refine lv_icmp_ne (tgt := 92) hx hb d_Mod_lampsOf_82 (by decide) (fun c_290 => ?_) (fun c_290 => ?_)
            · replace hF := xo_if_f c_290 hF
              refine lv_iconst (v := (0 : Int32)) hx hb d_Mod_lampsOf_92 (by decide) ?_
              have q9 := Option.some.inj hF
              subst q9
              exact hret 93 _ _ _ d_Mod_lampsOf_93 rfl hP hS
            · replace hF := xo_if_t c_290 hF
              refine lv_bipush (v := (7 : Int32)) hx hb d_Mod_lampsOf_85 (by decide) ?_
              refine lv_iload_n hx hb d_Mod_lampsOf_87 rfl (lv_at hl 0 rfl) ?_
              refine lv_imul hx hb d_Mod_lampsOf_88 ?_
              refine lv_goto (tgt := 93) hx hb d_Mod_lampsOf_89 (by decide) ?_
              have q9 := Option.some.inj hF
              subst q9
              exact hret 93 _ _ _ d_Mod_lampsOf_93 rfl hP hS
set_option maxHeartbeats 4000000 in
set_option maxRecDepth 100000 in
theorem c_Mod_street (l : Launch) (D : va_G) (cI cZ : ClassId) (ad : Nat → Nat) (A : Nat → Prop) (adK adV : Nat → Nat) (hDw : ∀ st : XS, va_D A (xw_M ad cI cZ st)) (x1 : Int32) (x2 : Int32) (st : XS) (r9 : Int32) (st9 : XS) (hF : F_Mod_street x1 x2 st = some (r9, st9)) : K_I l D cI cZ A adK adV (xw_M ad cI cZ) y_Mod_street b_Mod_street 3 (some .int) 4 99 [.ref (ad 0), .int x1, .int x2] st r9 st9 := by
  refine xk_startI (by decide) .int rfl (Nat.le_of_ble_eq_true rfl) ?_
  intro p e s m args below meth c Q ls hx hb hml hown hts hK hE hP hS hl hret
  replace hown : s.vm.findClass R_Mod = some m.cls := hown
  replace hl : lv_has ls 3 [(0, .ref (ad 0)), (1, .int x1), (2, .int x2)] := hl
  unfold F_Mod_street at hF
  refine lv_aload_n hx hb d_Mod_street_0 rfl (lv_at hl 0 rfl) ?_
  refine lv_iload_n hx hb d_Mod_street_1 rfl (lv_at hl 1 rfl) ?_
  obtain ⟨v1, h_v1, hF⟩ := xo_ob hF
  refine xk_goI (xk_runV (As := [.int x1]) (rest := []) hx hb hml hown hts hK hE (fun _ h => h) hP hS ok_Mod_isStreet in_Mod_isStreet u_786 (c_Mod_isStreet l D cI cZ ad A adK adV hDw x1 st v1 h_v1) (va_recv hK hP (ci := 4) (q0 := 0) rfl xw_M_at_0) (by decide) rfl hl.1 rfl (Nat.le_of_ble_eq_true rfl) d_Mod_street_2 ⟨Nat.le_refl _, Nat.le_refl _⟩) (fun _ h => h) hS (fun H locs hP hS => ?_)
  refine lv_if_ne (tgt := 14) hx hb d_Mod_street_5 (by decide) (fun c_291 => ?_) (fun c_291 => ?_)
  · replace hF := xo_if_f c_291 hF
    refine lv_iload_n hx hb d_Mod_street_14 rfl (lv_at hl 2 rfl) ?_
    by_cases c_292 : x2 = (0 : Int32)
    · replace hF := xo_if_t c_292 hF
      refine lv_tableIn (off := 33) (tgt := 48) hx hb d_Mod_street_15 (by rw [c_292]; decide) (by rw [c_292]; decide) (by rw [c_292]; decide) (by decide) ?_
      refine lv_aload_n hx hb d_Mod_street_48 rfl (lv_at hl 0 rfl) ?_
      refine xk_get (C := R_Mod) (T := F_Mod) (N := 23) hx hb hts i_Mod hown hK hP 0 xw_M_at_0 rfl 1 (by decide) u_667 rfl d_Mod_street_49 ?_
      refine lv_iload_n hx hb d_Mod_street_52 rfl (lv_at hl 1 rfl) ?_
      obtain ⟨v4, h_v4, hF⟩ := xo_ob hF
      refine xk_iald hx hb hK hP 1 xw_M_at_1 h_v4 d_Mod_street_53 ?_
      obtain ⟨q8, q9⟩ := xo_s2 hF
      subst q8
      subst q9
      exact hret 54 _ _ _ d_Mod_street_54 rfl hP hS
    · replace hF := xo_if_f c_292 hF
      by_cases c_293 : x2 = (1 : Int32)
      · replace hF := xo_if_t c_293 hF
        refine lv_tableIn (off := 40) (tgt := 55) hx hb d_Mod_street_15 (by rw [c_293]; decide) (by rw [c_293]; decide) (by rw [c_293]; decide) (by decide) ?_
        refine lv_aload_n hx hb d_Mod_street_55 rfl (lv_at hl 0 rfl) ?_
        refine xk_get (C := R_Mod) (T := F_Mod) (N := 23) hx hb hts i_Mod hown hK hP 0 xw_M_at_0 rfl 2 (by decide) u_668 rfl d_Mod_street_56 ?_
        refine lv_iload_n hx hb d_Mod_street_59 rfl (lv_at hl 1 rfl) ?_
        obtain ⟨v5, h_v5, hF⟩ := xo_ob hF
        refine xk_iald hx hb hK hP 2 xw_M_at_2 h_v5 d_Mod_street_60 ?_
        obtain ⟨q8, q9⟩ := xo_s2 hF
        subst q8
        subst q9
        exact hret 61 _ _ _ d_Mod_street_61 rfl hP hS
      · replace hF := xo_if_f c_293 hF
        by_cases c_294 : x2 = (2 : Int32)
        · replace hF := xo_if_t c_294 hF
          refine lv_tableIn (off := 47) (tgt := 62) hx hb d_Mod_street_15 (by rw [c_294]; decide) (by rw [c_294]; decide) (by rw [c_294]; decide) (by decide) ?_
          refine lv_aload_n hx hb d_Mod_street_62 rfl (lv_at hl 0 rfl) ?_
          refine xk_get (C := R_Mod) (T := F_Mod) (N := 23) hx hb hts i_Mod hown hK hP 0 xw_M_at_0 rfl 3 (by decide) u_669 rfl d_Mod_street_63 ?_
          refine lv_iload_n hx hb d_Mod_street_66 rfl (lv_at hl 1 rfl) ?_
          obtain ⟨v6, h_v6, hF⟩ := xo_ob hF
          refine xk_iald hx hb hK hP 3 xw_M_at_3 h_v6 d_Mod_street_67 ?_
          obtain ⟨q8, q9⟩ := xo_s2 hF
          subst q8
          subst q9
          exact hret 68 _ _ _ d_Mod_street_68 rfl hP hS
        · replace hF := xo_if_f c_294 hF
          by_cases c_295 : x2 = (3 : Int32)
          · replace hF := xo_if_t c_295 hF
            refine lv_tableIn (off := 54) (tgt := 69) hx hb d_Mod_street_15 (by rw [c_295]; decide) (by rw [c_295]; decide) (by rw [c_295]; decide) (by decide) ?_
            refine lv_aload_n hx hb d_Mod_street_69 rfl (lv_at hl 0 rfl) ?_
            refine xk_get (C := R_Mod) (T := F_Mod) (N := 23) hx hb hts i_Mod hown hK hP 0 xw_M_at_0 rfl 4 (by decide) u_670 rfl d_Mod_street_70 ?_
            refine lv_iload_n hx hb d_Mod_street_73 rfl (lv_at hl 1 rfl) ?_
            obtain ⟨v7, h_v7, hF⟩ := xo_ob hF
            refine xk_iald hx hb hK hP 4 xw_M_at_4 h_v7 d_Mod_street_74 ?_
            obtain ⟨q8, q9⟩ := xo_s2 hF
            subst q8
            subst q9
            exact hret 75 _ _ _ d_Mod_street_75 rfl hP hS
          · replace hF := xo_if_f c_295 hF
            by_cases c_296 : x2 = (4 : Int32)
            · replace hF := xo_if_t c_296 hF
              refine lv_tableIn (off := 61) (tgt := 76) hx hb d_Mod_street_15 (by rw [c_296]; decide) (by rw [c_296]; decide) (by rw [c_296]; decide) (by decide) ?_
              refine lv_aload_n hx hb d_Mod_street_76 rfl (lv_at hl 0 rfl) ?_
              refine lv_iload_n hx hb d_Mod_street_77 rfl (lv_at hl 1 rfl) ?_
              obtain ⟨v8, h_v8, hF⟩ := xo_ob hF
              refine xk_goI (xk_runV (As := [.int x1]) (rest := []) hx hb hml hown hts hK hE (fun _ h => h) hP hS ok_Mod_lampsOf in_Mod_lampsOf u_795 (c_Mod_lampsOf l D cI cZ ad A adK adV hDw x1 st v8 h_v8) (va_recv hK hP (ci := 4) (q0 := 0) rfl xw_M_at_0) (by decide) rfl hl.1 rfl (Nat.le_of_ble_eq_true rfl) d_Mod_street_78 ⟨Nat.le_refl _, Nat.le_refl _⟩) (fun _ h => h) hS (fun H locs hP hS => ?_)
              obtain ⟨q8, q9⟩ := xo_s2 hF
              subst q8
              subst q9
              exact hret 81 _ _ _ d_Mod_street_81 rfl hP hS
            · replace hF := xo_if_f c_296 hF
              refine lv_tableOut (tgt := 82) hx hb d_Mod_street_15 (xk_out_0_4 c_292 c_293 c_294 c_295 c_296) (by decide) ?_
              refine lv_aload_n hx hb d_Mod_street_82 rfl (lv_at hl 0 rfl) ?_
              refine lv_bipush (v := (-2 : Int32)) hx hb d_Mod_street_83 (by decide) ?_
              obtain ⟨v9, t10, h_v9, hF⟩ := xo_ob2 hF
              refine xk_goI (xk_runV (As := [.int (-2 : Int32)]) (rest := []) hx hb hml hown hts hK hE (fun _ h => h) hP hS ok_Mod_noFar in_Mod_noFar u_790 (c_Mod_noFar l D cI cZ ad A adK adV hDw (-2 : Int32) st v9 t10 h_v9) (va_recv hK hP (ci := 4) (q0 := 0) rfl xw_M_at_0) (by decide) rfl hl.1 rfl (Nat.le_of_ble_eq_true rfl) d_Mod_street_85 ⟨Nat.le_refl _, Nat.le_refl _⟩) (fun _ h => h) hS (fun H locs hP hS => ?_)
              obtain ⟨q8, q9⟩ := xo_s2 hF
              subst q8
              subst q9
              exact hret 88 _ _ _ d_Mod_street_88 rfl hP hS
  · replace hF := xo_if_t c_291 hF
    refine lv_aload_n hx hb d_Mod_street_8 rfl (lv_at hl 0 rfl) ?_
    refine lv_iconst (v := (-1 : Int32)) hx hb d_Mod_street_9 (by decide) ?_
    obtain ⟨v2, t3, h_v2, hF⟩ := xo_ob2 hF
    refine xk_goI (xk_runV (As := [.int (-1 : Int32)]) (rest := []) hx hb hml hown hts hK hE (fun _ h => h) hP hS ok_Mod_noFar in_Mod_noFar u_790 (c_Mod_noFar l D cI cZ ad A adK adV hDw (-1 : Int32) st v2 t3 h_v2) (va_recv hK hP (ci := 4) (q0 := 0) rfl xw_M_at_0) (by decide) rfl hl.1 rfl (Nat.le_of_ble_eq_true rfl) d_Mod_street_10 ⟨Nat.le_refl _, Nat.le_refl _⟩) (fun _ h => h) hS (fun H locs hP hS => ?_)
    obtain ⟨q8, q9⟩ := xo_s2 hF
    subst q8
    subst q9
    exact hret 13 _ _ _ d_Mod_street_13 rfl hP hS
set_option maxHeartbeats 4000000 in
set_option maxRecDepth 100000 in
theorem c_Mod_isPlot (l : Launch) (D : va_G) (cI cZ : ClassId) (ad : Nat → Nat) (A : Nat → Prop) (adK adV : Nat → Nat) (hDw : ∀ st : XS, va_D A (xw_M ad cI cZ st)) (x1 : Int32) (st : XS) (r9 : Int32) (hF : F_Mod_isPlot x1 st = some r9) : K_I l D cI cZ A adK adV (xw_M ad cI cZ) y_Mod_isPlot b_Mod_isPlot 2 (some .boolean) 1 22 [.ref (ad 0), .int x1] st r9 st := by
  refine xk_startI (by decide) .boolean rfl (Nat.le_of_ble_eq_true rfl) ?_
  intro p e s m args below meth c Q ls hx hb hml hown hts hK hE hP hS hl hret
  replace hown : s.vm.findClass R_Mod = some m.cls := hown
  replace hl : lv_has ls 2 [(0, .ref (ad 0)), (1, .int x1)] := hl
  unfold F_Mod_isPlot at hF
  refine lv_iload_n hx hb d_Mod_isPlot_0 rfl (lv_at hl 1 rfl) ?_
  refine lv_iconst (v := (0 : Int32)) hx hb d_Mod_isPlot_1 (by decide) ?_
  refine lv_aload_n hx hb d_Mod_isPlot_2 rfl (lv_at hl 0 rfl) ?_
  refine xk_get (C := R_Mod) (T := F_Mod) (N := 23) hx hb hts i_Mod hown hK hP 0 xw_M_at_0 rfl 5 (by decide) u_671 rfl d_Mod_isPlot_3 ?_
  refine lv_iconst (v := (1 : Int32)) hx hb d_Mod_isPlot_6 (by decide) ?_
  refine lv_isub hx hb d_Mod_isPlot_7 ?_
  obtain ⟨v1, h_v1, hF⟩ := xo_ob hF
  refine xk_goI (xk_runS (As := [.int x1, .int (0 : Int32), .int ((st.1 0 5) - (1 : Int32))]) (rest := []) hx hb hml hown hts hK hE (fun _ h => h) hP hS ok_Mod_within st_Mod_within u_765 (c_Mod_within l D cI cZ ad A adK adV hDw x1 (0 : Int32) ((st.1 0 5) - (1 : Int32)) st v1 h_v1) (by decide) rfl hl.1 rfl (Nat.le_of_ble_eq_true rfl) d_Mod_isPlot_8 ⟨Nat.le_refl _, Nat.le_refl _⟩) (fun _ h => h) hS (fun H locs hP hS => ?_)
  obtain ⟨v2, h_v2, hF⟩ := xo_ob hF
  obtain ⟨e_v2, h_v2⟩ := xo_cb_e h_v2
  refine W.eq (g2 := F0 m 11 _ [.int v2]) (by rw [e_v2]) ?_
  have q9 := Option.some.inj hF
  subst q9
  exact hret 11 _ _ _ d_Mod_isPlot_11 (by rcases h_v2 with h | h <;> rw [h] <;> rfl) hP hS
set_option maxHeartbeats 4000000 in
set_option maxRecDepth 100000 in
theorem c_Mod_plot (l : Launch) (D : va_G) (cI cZ : ClassId) (ad : Nat → Nat) (A : Nat → Prop) (adK adV : Nat → Nat) (hDw : ∀ st : XS, va_D A (xw_M ad cI cZ st)) (x1 : Int32) (x2 : Int32) (st : XS) (r9 : Int32) (st9 : XS) (hF : F_Mod_plot x1 x2 st = some (r9, st9)) : K_I l D cI cZ A adK adV (xw_M ad cI cZ) y_Mod_plot b_Mod_plot 3 (some .int) 2 43 [.ref (ad 0), .int x1, .int x2] st r9 st9 := by
  refine xk_startI (by decide) .int rfl (Nat.le_of_ble_eq_true rfl) ?_
  intro p e s m args below meth c Q ls hx hb hml hown hts hK hE hP hS hl hret
  replace hown : s.vm.findClass R_Mod = some m.cls := hown
  replace hl : lv_has ls 3 [(0, .ref (ad 0)), (1, .int x1), (2, .int x2)] := hl
  unfold F_Mod_plot at hF
  refine lv_aload_n hx hb d_Mod_plot_0 rfl (lv_at hl 0 rfl) ?_
  refine lv_iload_n hx hb d_Mod_plot_1 rfl (lv_at hl 1 rfl) ?_
  obtain ⟨v1, h_v1, hF⟩ := xo_ob hF
  refine xk_goI (xk_runV (As := [.int x1]) (rest := []) hx hb hml hown hts hK hE (fun _ h => h) hP hS ok_Mod_isPlot in_Mod_isPlot u_815 (c_Mod_isPlot l D cI cZ ad A adK adV hDw x1 st v1 h_v1) (va_recv hK hP (ci := 4) (q0 := 0) rfl xw_M_at_0) (by decide) rfl hl.1 rfl (Nat.le_of_ble_eq_true rfl) d_Mod_plot_2 ⟨Nat.le_refl _, Nat.le_refl _⟩) (fun _ h => h) hS (fun H locs hP hS => ?_)
  refine lv_if_ne (tgt := 14) hx hb d_Mod_plot_5 (by decide) (fun c_297 => ?_) (fun c_297 => ?_)
  · replace hF := xo_if_f c_297 hF
    refine lv_iload_n hx hb d_Mod_plot_14 rfl (lv_at hl 2 rfl) ?_
    refine lv_iconst (v := (0 : Int32)) hx hb d_Mod_plot_15 (by decide) ?_
    refine lv_iconst (v := (1 : Int32)) hx hb d_Mod_plot_16 (by decide) ?_
    obtain ⟨v4, h_v4, hF⟩ := xo_ob hF
    refine xk_goI (xk_runS (As := [.int x2, .int (0 : Int32), .int (1 : Int32)]) (rest := []) hx hb hml hown hts hK hE (fun _ h => h) hP hS ok_Mod_within st_Mod_within u_765 (c_Mod_within l D cI cZ ad A adK adV hDw x2 (0 : Int32) (1 : Int32) st v4 h_v4) (by decide) rfl hl.1 rfl (Nat.le_of_ble_eq_true rfl) d_Mod_plot_17 ⟨Nat.le_refl _, Nat.le_refl _⟩) (fun _ h => h) hS (fun H locs hP hS => ?_)
    refine lv_if_ne (tgt := 30) hx hb d_Mod_plot_20 (by decide) (fun c_298 => ?_) (fun c_298 => ?_)
    · replace hF := xo_if_f c_298 hF
      refine lv_iload_n hx hb d_Mod_plot_30 rfl (lv_at hl 2 rfl) ?_
      refine lv_if_ne (tgt := 43) hx hb d_Mod_plot_31 (by decide) (fun c_299 => ?_) (fun c_299 => ?_)
      · replace hF := xo_if_f c_299 hF
        refine lv_aload_n hx hb d_Mod_plot_43 rfl (lv_at hl 0 rfl) ?_
        refine xk_get (C := R_Mod) (T := F_Mod) (N := 23) hx hb hts i_Mod hown hK hP 0 xw_M_at_0 rfl 7 (by decide) u_673 rfl d_Mod_plot_44 ?_
        refine lv_iload_n hx hb d_Mod_plot_47 rfl (lv_at hl 1 rfl) ?_
        obtain ⟨v8, h_v8, hF⟩ := xo_ob hF
        refine xk_iald hx hb hK hP 6 xw_M_at_7 h_v8 d_Mod_plot_48 ?_
        obtain ⟨q8, q9⟩ := xo_s2 hF
        subst q8
        subst q9
        exact hret 49 _ _ _ d_Mod_plot_49 rfl hP hS
      · replace hF := xo_if_t c_299 hF
        refine lv_aload_n hx hb d_Mod_plot_34 rfl (lv_at hl 0 rfl) ?_
        refine xk_get (C := R_Mod) (T := F_Mod) (N := 23) hx hb hts i_Mod hown hK hP 0 xw_M_at_0 rfl 6 (by decide) u_672 rfl d_Mod_plot_35 ?_
        refine lv_iload_n hx hb d_Mod_plot_38 rfl (lv_at hl 1 rfl) ?_
        obtain ⟨v7, h_v7, hF⟩ := xo_ob hF
        refine xk_iald hx hb hK hP 5 xw_M_at_6 h_v7 d_Mod_plot_39 ?_
        refine lv_goto (tgt := 49) hx hb d_Mod_plot_40 (by decide) ?_
        obtain ⟨q8, q9⟩ := xo_s2 hF
        subst q8
        subst q9
        exact hret 49 _ _ _ d_Mod_plot_49 rfl hP hS
    · replace hF := xo_if_t c_298 hF
      refine lv_aload_n hx hb d_Mod_plot_23 rfl (lv_at hl 0 rfl) ?_
      refine lv_bipush (v := (-2 : Int32)) hx hb d_Mod_plot_24 (by decide) ?_
      obtain ⟨v5, t6, h_v5, hF⟩ := xo_ob2 hF
      refine xk_goI (xk_runV (As := [.int (-2 : Int32)]) (rest := []) hx hb hml hown hts hK hE (fun _ h => h) hP hS ok_Mod_noFar in_Mod_noFar u_790 (c_Mod_noFar l D cI cZ ad A adK adV hDw (-2 : Int32) st v5 t6 h_v5) (va_recv hK hP (ci := 4) (q0 := 0) rfl xw_M_at_0) (by decide) rfl hl.1 rfl (Nat.le_of_ble_eq_true rfl) d_Mod_plot_26 ⟨Nat.le_refl _, Nat.le_refl _⟩) (fun _ h => h) hS (fun H locs hP hS => ?_)
      obtain ⟨q8, q9⟩ := xo_s2 hF
      subst q8
      subst q9
      exact hret 29 _ _ _ d_Mod_plot_29 rfl hP hS
  · replace hF := xo_if_t c_297 hF
    refine lv_aload_n hx hb d_Mod_plot_8 rfl (lv_at hl 0 rfl) ?_
    refine lv_iconst (v := (-1 : Int32)) hx hb d_Mod_plot_9 (by decide) ?_
    obtain ⟨v2, t3, h_v2, hF⟩ := xo_ob2 hF
    refine xk_goI (xk_runV (As := [.int (-1 : Int32)]) (rest := []) hx hb hml hown hts hK hE (fun _ h => h) hP hS ok_Mod_noFar in_Mod_noFar u_790 (c_Mod_noFar l D cI cZ ad A adK adV hDw (-1 : Int32) st v2 t3 h_v2) (va_recv hK hP (ci := 4) (q0 := 0) rfl xw_M_at_0) (by decide) rfl hl.1 rfl (Nat.le_of_ble_eq_true rfl) d_Mod_plot_10 ⟨Nat.le_refl _, Nat.le_refl _⟩) (fun _ h => h) hS (fun H locs hP hS => ?_)
    obtain ⟨q8, q9⟩ := xo_s2 hF
    subst q8
    subst q9
    exact hret 13 _ _ _ d_Mod_plot_13 rfl hP hS
set_option maxHeartbeats 4000000 in
set_option maxRecDepth 100000 in
theorem c_Mod_crossing (l : Launch) (D : va_G) (cI cZ : ClassId) (ad : Nat → Nat) (A : Nat → Prop) (adK adV : Nat → Nat) (hDw : ∀ st : XS, va_D A (xw_M ad cI cZ st)) (x1 : Int32) (x2 : Int32) (x3 : Int32) (st : XS) (r9 : Int32) (st9 : XS) (hF : F_Mod_crossing x1 x2 x3 st = some (r9, st9)) : K_I l D cI cZ A adK adV (xw_M ad cI cZ) y_Mod_crossing b_Mod_crossing 9 (some .int) 2 43 [.ref (ad 0), .int x1, .int x2, .int x3] st r9 st9 := by
  refine xk_startI (by decide) .int rfl (Nat.le_of_ble_eq_true rfl) ?_
  intro p e s m args below meth c Q ls hx hb hml hown hts hK hE hP hS hl hret
  replace hown : s.vm.findClass R_Mod = some m.cls := hown
  replace hl : lv_has ls 9 [(0, .ref (ad 0)), (1, .int x1), (2, .int x2), (3, .int x3)] := hl
  unfold F_Mod_crossing at hF
  have mg151 : ∀ (x3 : Int32) (x4 : Int32) (x5 : Int32) (xs : XS), F_Mod_crossing_m151 x3 x4 x5 xs = some (r9, st9) → ∀ (H : Heap) (locs : List Loc) (ls : Array Slot), va_P D classes (xw_M ad cI cZ xs) H → va_S A s.heap H locs → lv_has ls 9 [(3, .int x3), (4, .int x4), (5, .int x5)] → W p l e (xk_rm 2 43) s m args below meth c H locs 0 0 Q (F0 m 151 ls []) := by
    intro x3 x4 x5 xs hF H locs ls hP hS hl
    unfold F_Mod_crossing_m151 at hF
    refine lv_iload hx hb d_Mod_crossing_151 (lv_at hl 2 rfl) ?_
    refine va_mabs hx hb (by rw [hml]; exact hl.1.symm) hown (hts _ u_ms823_abs) (hts _ u_st_abs) (hts _ u_in_Math) (hts _ u_co_abs) (by decide) (Nat.le_of_ble_eq_true rfl) (Nat.le_refl _) (Nat.le_refl _) d_Mod_crossing_153 ?_
    refine lv_topi (fun v1 e_v1 => ?_)
    replace hF := xo_nm_u hF e_v1
    clear e_v1
    refine lv_istore (lv' := [(6, .int v1), (3, .int x3), (4, .int x4), (5, .int x5)]) hx hb d_Mod_crossing_156 hl (by decide) rfl (fun ls hl => ?_)
    refine lv_iload hx hb d_Mod_crossing_158 (lv_at hl 2 rfl) ?_
    refine lv_istore (lv' := [(7, .int x4), (6, .int v1), (3, .int x3), (4, .int x4), (5, .int x5)]) hx hb d_Mod_crossing_160 hl (by decide) rfl (fun ls hl => ?_)
    have lp162 : ∀ (n : Nat) (w162_6 : Int32) (w162_7 : Int32) (y : Int32), xo_lp (fun q : (Int32 × Int32) => F_Mod_crossing_b162 x3 x4 x5 xs q.1 q.2) n (w162_6, w162_7) = some y → (∀ (e6 : Int32), e6 = y → ∀ (H : Heap) (locs : List Loc) (ls : Array Slot), va_P D classes (xw_M ad cI cZ xs) H → va_S A s.heap H locs → lv_has ls 9 [(3, .int x3), (4, .int x4), (5, .int x5), (6, .int e6)] → W p l e (xk_rm 2 43) s m args below meth c H locs 0 0 Q (F0 m 185 ls [])) → ∀ (H : Heap) (locs : List Loc) (ls : Array Slot), va_P D classes (xw_M ad cI cZ xs) H → va_S A s.heap H locs → lv_has ls 9 [(3, .int x3), (4, .int x4), (5, .int x5), (6, .int w162_6), (7, .int w162_7)] → W p l e (xk_rm 2 43) s m args below meth c H locs 0 0 Q (F0 m 162 ls []) := by
      intro n
      induction n with
      | zero =>
        intro w162_6 w162_7 y hL
        exact nomatch (show (none : Option _) = some y from hL)
      | succ n ih =>
        intro w162_6 w162_7 y hL kx0 H locs ls hP hS hl
        obtain ⟨z9, hB, hL⟩ := xo_lp_s hL
        replace hB : F_Mod_crossing_b162 x3 x4 x5 xs w162_6 w162_7 = some z9 := hB
        unfold F_Mod_crossing_b162 at hB
        refine lv_iload hx hb d_Mod_crossing_162 (lv_at hl 4 rfl) ?_
        refine lv_if_eq (tgt := 185) hx hb d_Mod_crossing_164 (by decide) (fun c_300 => ?_) (fun c_300 => ?_)
        · replace hB := xo_if_t c_300 hB
          have q9 := Option.some.inj hB
          subst q9
          replace hL := Option.some.inj (xo_elR hL)
          subst hL
          exact kx0 _ rfl _ _ _ hP hS (lv_sub hl [0, 1, 2, 3] rfl)
        · replace hB := xo_if_f c_300 hB
          refine lv_iload hx hb d_Mod_crossing_167 (lv_at hl 3 rfl) ?_
          refine lv_iload hx hb d_Mod_crossing_169 (lv_at hl 4 rfl) ?_
          obtain ⟨v3, h_v3, hB⟩ := xo_ob hB
          refine xk_irem hx hb d_Mod_crossing_171 h_v3 ?_
          refine lv_istore (lv' := [(8, .int v3), (3, .int x3), (4, .int x4), (5, .int x5), (6, .int w162_6), (7, .int w162_7)]) hx hb d_Mod_crossing_172 hl (by decide) rfl (fun ls hl => ?_)
          refine lv_iload hx hb d_Mod_crossing_174 (lv_at hl 5 rfl) ?_
          refine lv_istore (lv' := [(6, .int w162_7), (8, .int v3), (3, .int x3), (4, .int x4), (5, .int x5), (7, .int w162_7)]) hx hb d_Mod_crossing_176 hl (by decide) rfl (fun ls hl => ?_)
          refine lv_iload hx hb d_Mod_crossing_178 (lv_at hl 1 rfl) ?_
          refine lv_istore (lv' := [(7, .int v3), (6, .int w162_7), (8, .int v3), (3, .int x3), (4, .int x4), (5, .int x5)]) hx hb d_Mod_crossing_180 hl (by decide) rfl (fun ls hl => ?_)
          refine lv_goto (tgt := 162) hx hb d_Mod_crossing_182 (by decide) ?_
          have q9 := Option.some.inj hB
          subst q9
          exact ih _ _ _ (xo_elL hL) kx0 _ _ _ hP hS (lv_sub hl [3, 4, 5, 1, 0] rfl)
    obtain ⟨y162, hL162, hF⟩ := xo_ob hF
    refine lp162 1000000 v1 x4 y162 hL162 ?_ _ _ _ hP hS (lv_sub hl [2, 3, 4, 1, 0] rfl)
    intro o2 ey H locs ls hP hS hl
    subst ey
    refine lv_iload_n hx hb d_Mod_crossing_185 rfl (lv_at hl 0 rfl) ?_
    refine lv_iconst (v := (2 : Int32)) hx hb d_Mod_crossing_186 (by decide) ?_
    obtain ⟨v4, h_v4, hF⟩ := xo_ob hF
    refine xk_irem hx hb d_Mod_crossing_187 h_v4 ?_
    refine lv_if_ne (tgt := 199) hx hb d_Mod_crossing_188 (by decide) (fun c_301 => ?_) (fun c_301 => ?_)
    · replace hF := xo_if_f c_301 hF
      refine lv_iload hx hb d_Mod_crossing_199 (lv_at hl 1 rfl) ?_
      refine lv_iload hx hb d_Mod_crossing_201 (lv_at hl 3 rfl) ?_
      obtain ⟨v6, h_v6, hF⟩ := xo_ob hF
      refine xk_idiv hx hb d_Mod_crossing_203 h_v6 ?_
      obtain ⟨q8, q9⟩ := xo_s2 hF
      subst q8
      subst q9
      exact hret 204 _ _ _ d_Mod_crossing_204 rfl hP hS
    · replace hF := xo_if_t c_301 hF
      refine lv_iload hx hb d_Mod_crossing_191 (lv_at hl 2 rfl) ?_
      refine lv_iload hx hb d_Mod_crossing_193 (lv_at hl 3 rfl) ?_
      obtain ⟨v5, h_v5, hF⟩ := xo_ob hF
      refine xk_idiv hx hb d_Mod_crossing_195 h_v5 ?_
      refine lv_goto (tgt := 204) hx hb d_Mod_crossing_196 (by decide) ?_
      obtain ⟨q8, q9⟩ := xo_s2 hF
      subst q8
      subst q9
      exact hret 204 _ _ _ d_Mod_crossing_204 rfl hP hS
  have mg134 : ∀ (x3 : Int32) (x4 : Int32) (k0 : Int32) (xs : XS), F_Mod_crossing_m134 x3 x4 k0 xs = some (r9, st9) → ∀ (H : Heap) (locs : List Loc) (ls : Array Slot), va_P D classes (xw_M ad cI cZ xs) H → va_S A s.heap H locs → lv_has ls 9 [(3, .int x3), (4, .int x4)] → W p l e (xk_rm 2 43) s m args below meth c H locs 0 0 Q (F0 m 134 ls [.int k0]) := by
    intro x3 x4 k0 xs hF H locs ls hP hS hl
    unfold F_Mod_crossing_m134 at hF
    refine lv_istore (lv' := [(5, .int k0), (3, .int x3), (4, .int x4)]) hx hb d_Mod_crossing_134 hl (by decide) rfl (fun ls hl => ?_)
    refine lv_iload hx hb d_Mod_crossing_136 (lv_at hl 2 rfl) ?_
    refine lv_if_ge (tgt := 151) hx hb d_Mod_crossing_138 (by decide) (fun c_302 => ?_) (fun c_302 => ?_)
    · replace hF := xo_if_t c_302 hF
      exact mg151 _ _ _ _ hF _ _ _ hP hS (lv_sub hl [1, 2, 0] rfl)
    · replace hF := xo_if_f c_302 hF
      refine lv_iload hx hb d_Mod_crossing_141 (lv_at hl 2 rfl) ?_
      refine lv_ineg hx hb d_Mod_crossing_143 ?_
      refine lv_topi (fun v7 e_v7 => ?_)
      replace hF := xo_nm_u hF e_v7
      clear e_v7
      refine lv_istore (lv' := [(4, .int v7), (5, .int k0), (3, .int x3)]) hx hb d_Mod_crossing_144 hl (by decide) rfl (fun ls hl => ?_)
      refine lv_iload hx hb d_Mod_crossing_146 (lv_at hl 1 rfl) ?_
      refine lv_ineg hx hb d_Mod_crossing_148 ?_
      refine lv_topi (fun v8 e_v8 => ?_)
      replace hF := xo_nm_u hF e_v8
      clear e_v8
      refine lv_istore (lv' := [(5, .int v8), (4, .int v7), (3, .int x3)]) hx hb d_Mod_crossing_149 hl (by decide) rfl (fun ls hl => ?_)
      exact mg151 _ _ _ _ hF _ _ _ hP hS (lv_sub hl [2, 1, 0] rfl)
  have mg21 : ∀ (xs : XS), F_Mod_crossing_m21 xs = some (r9, st9) → ∀ (H : Heap) (locs : List Loc) (ls : Array Slot), va_P D classes (xw_M ad cI cZ xs) H → va_S A s.heap H locs → lv_has ls 9 [(0, .ref (ad 0))] → W p l e (xk_rm 2 43) s m args below meth c H locs 0 0 Q (F0 m 21 ls []) := by
    intro xs hF H locs ls hP hS hl
    unfold F_Mod_crossing_m21 at hF
    refine lv_aload_n hx hb d_Mod_crossing_21 rfl (lv_at hl 0 rfl) ?_
    refine lv_iconst (v := (-1 : Int32)) hx hb d_Mod_crossing_22 (by decide) ?_
    obtain ⟨v9, t10, h_v9, hF⟩ := xo_ob2 hF
    refine xk_goI (xk_runV (As := [.int (-1 : Int32)]) (rest := []) hx hb hml hown hts hK hE (fun _ h => h) hP hS ok_Mod_noFar in_Mod_noFar u_790 (c_Mod_noFar l D cI cZ ad A adK adV hDw (-1 : Int32) xs v9 t10 h_v9) (va_recv hK hP (ci := 4) (q0 := 0) rfl xw_M_at_0) (by decide) rfl hl.1 rfl (Nat.le_of_ble_eq_true rfl) d_Mod_crossing_23 ⟨Nat.le_refl _, Nat.le_refl _⟩) (fun _ h => h) hS (fun H locs hP hS => ?_)
    obtain ⟨q8, q9⟩ := xo_s2 hF
    subst q8
    subst q9
    exact hret 26 _ _ _ d_Mod_crossing_26 rfl hP hS
  refine lv_aload_n hx hb d_Mod_crossing_0 rfl (lv_at hl 0 rfl) ?_
  refine lv_iload_n hx hb d_Mod_crossing_1 rfl (lv_at hl 1 rfl) ?_
  obtain ⟨v11, h_v11, hF⟩ := xo_ob hF
  refine xk_goI (xk_runV (As := [.int x1]) (rest := []) hx hb hml hown hts hK hE (fun _ h => h) hP hS ok_Mod_isStreet in_Mod_isStreet u_786 (c_Mod_isStreet l D cI cZ ad A adK adV hDw x1 st v11 h_v11) (va_recv hK hP (ci := 4) (q0 := 0) rfl xw_M_at_0) (by decide) rfl hl.1 rfl (Nat.le_of_ble_eq_true rfl) d_Mod_crossing_2 ⟨Nat.le_refl _, Nat.le_refl _⟩) (fun _ h => h) hS (fun H locs hP hS => ?_)
  refine lv_if_eq (tgt := 21) hx hb d_Mod_crossing_5 (by decide) (fun c_303 => ?_) (fun c_303 => ?_)
  · replace hF := xo_if_t c_303 hF
    exact mg21 _ hF _ _ _ hP hS (lv_sub hl [0] rfl)
  · replace hF := xo_if_f c_303 hF
    refine lv_aload_n hx hb d_Mod_crossing_8 rfl (lv_at hl 0 rfl) ?_
    refine lv_iload_n hx hb d_Mod_crossing_9 rfl (lv_at hl 2 rfl) ?_
    obtain ⟨v12, h_v12, hF⟩ := xo_ob hF
    refine xk_goI (xk_runV (As := [.int x2]) (rest := []) hx hb hml hown hts hK hE (fun _ h => h) hP hS ok_Mod_isStreet in_Mod_isStreet u_786 (c_Mod_isStreet l D cI cZ ad A adK adV hDw x2 st v12 h_v12) (va_recv hK hP (ci := 4) (q0 := 0) rfl xw_M_at_0) (by decide) rfl hl.1 rfl (Nat.le_of_ble_eq_true rfl) d_Mod_crossing_10 ⟨Nat.le_refl _, Nat.le_refl _⟩) (fun _ h => h) hS (fun H locs hP hS => ?_)
    refine lv_if_eq (tgt := 21) hx hb d_Mod_crossing_13 (by decide) (fun c_304 => ?_) (fun c_304 => ?_)
    · replace hF := xo_if_t c_304 hF
      exact mg21 _ hF _ _ _ hP hS (lv_sub hl [0] rfl)
    · replace hF := xo_if_f c_304 hF
      refine lv_iload_n hx hb d_Mod_crossing_16 rfl (lv_at hl 1 rfl) ?_
      refine lv_iload_n hx hb d_Mod_crossing_17 rfl (lv_at hl 2 rfl) ?_
      refine lv_icmp_ne (tgt := 27) hx hb d_Mod_crossing_18 (by decide) (fun c_305 => ?_) (fun c_305 => ?_)
      · replace hF := xo_if_f c_305 hF
        refine lv_iload_n hx hb d_Mod_crossing_27 rfl (lv_at hl 3 rfl) ?_
        refine lv_iconst (v := (0 : Int32)) hx hb d_Mod_crossing_28 (by decide) ?_
        refine lv_iconst (v := (3 : Int32)) hx hb d_Mod_crossing_29 (by decide) ?_
        obtain ⟨v13, h_v13, hF⟩ := xo_ob hF
        refine xk_goI (xk_runS (As := [.int x3, .int (0 : Int32), .int (3 : Int32)]) (rest := []) hx hb hml hown hts hK hE (fun _ h => h) hP hS ok_Mod_within st_Mod_within u_765 (c_Mod_within l D cI cZ ad A adK adV hDw x3 (0 : Int32) (3 : Int32) st v13 h_v13) (by decide) rfl hl.1 rfl (Nat.le_of_ble_eq_true rfl) d_Mod_crossing_30 ⟨Nat.le_refl _, Nat.le_refl _⟩) (fun _ h => h) hS (fun H locs hP hS => ?_)
        refine lv_if_ne (tgt := 43) hx hb d_Mod_crossing_33 (by decide) (fun c_306 => ?_) (fun c_306 => ?_)
        · replace hF := xo_if_f c_306 hF
          refine lv_aload_n hx hb d_Mod_crossing_43 rfl (lv_at hl 0 rfl) ?_
          refine xk_get (C := R_Mod) (T := F_Mod) (N := 23) hx hb hts i_Mod hown hK hP 0 xw_M_at_0 rfl 2 (by decide) u_668 rfl d_Mod_crossing_44 ?_
          refine lv_iload_n hx hb d_Mod_crossing_47 rfl (lv_at hl 1 rfl) ?_
          obtain ⟨v16, h_v16, hF⟩ := xo_ob hF
          refine xk_iald hx hb hK hP 2 xw_M_at_2 h_v16 d_Mod_crossing_48 ?_
          refine lv_aload_n hx hb d_Mod_crossing_49 rfl (lv_at hl 0 rfl) ?_
          refine xk_get (C := R_Mod) (T := F_Mod) (N := 23) hx hb hts i_Mod hown hK hP 0 xw_M_at_0 rfl 3 (by decide) u_669 rfl d_Mod_crossing_50 ?_
          refine lv_iload_n hx hb d_Mod_crossing_53 rfl (lv_at hl 2 rfl) ?_
          obtain ⟨v17, h_v17, hF⟩ := xo_ob hF
          refine xk_iald hx hb hK hP 3 xw_M_at_3 h_v17 d_Mod_crossing_54 ?_
          refine lv_imul hx hb d_Mod_crossing_55 ?_
          refine lv_aload_n hx hb d_Mod_crossing_56 rfl (lv_at hl 0 rfl) ?_
          refine xk_get (C := R_Mod) (T := F_Mod) (N := 23) hx hb hts i_Mod hown hK hP 0 xw_M_at_0 rfl 2 (by decide) u_668 rfl d_Mod_crossing_57 ?_
          refine lv_iload_n hx hb d_Mod_crossing_60 rfl (lv_at hl 2 rfl) ?_
          obtain ⟨v18, h_v18, hF⟩ := xo_ob hF
          refine xk_iald hx hb hK hP 2 xw_M_at_2 h_v18 d_Mod_crossing_61 ?_
          refine lv_aload_n hx hb d_Mod_crossing_62 rfl (lv_at hl 0 rfl) ?_
          refine xk_get (C := R_Mod) (T := F_Mod) (N := 23) hx hb hts i_Mod hown hK hP 0 xw_M_at_0 rfl 3 (by decide) u_669 rfl d_Mod_crossing_63 ?_
          refine lv_iload_n hx hb d_Mod_crossing_66 rfl (lv_at hl 1 rfl) ?_
          obtain ⟨v19, h_v19, hF⟩ := xo_ob hF
          refine xk_iald hx hb hK hP 3 xw_M_at_3 h_v19 d_Mod_crossing_67 ?_
          refine lv_imul hx hb d_Mod_crossing_68 ?_
          refine lv_isub hx hb d_Mod_crossing_69 ?_
          refine lv_topi (fun v20 e_v20 => ?_)
          replace hF := xo_nm_u hF e_v20
          clear e_v20
          refine lv_istore (lv' := [(4, .int v20), (0, .ref (ad 0)), (1, .int x1), (2, .int x2), (3, .int x3)]) hx hb d_Mod_crossing_70 hl (by decide) rfl (fun ls hl => ?_)
          refine lv_iload_n hx hb d_Mod_crossing_72 rfl (lv_at hl 4 rfl) ?_
          refine lv_iconst (v := (2 : Int32)) hx hb d_Mod_crossing_73 (by decide) ?_
          refine lv_icmp_ge (tgt := 107) hx hb d_Mod_crossing_74 (by decide) (fun c_307 => ?_) (fun c_307 => ?_)
          · replace hF := xo_if_t c_307 hF
            refine lv_aload_n hx hb d_Mod_crossing_107 rfl (lv_at hl 1 rfl) ?_
            refine xk_get (C := R_Mod) (T := F_Mod) (N := 23) hx hb hts i_Mod hown hK hP 0 xw_M_at_0 rfl 2 (by decide) u_668 rfl d_Mod_crossing_108 ?_
            refine lv_iload_n hx hb d_Mod_crossing_111 rfl (lv_at hl 2 rfl) ?_
            obtain ⟨v21, h_v21, hF⟩ := xo_ob hF
            refine xk_iald hx hb hK hP 2 xw_M_at_2 h_v21 d_Mod_crossing_112 ?_
            refine lv_aload_n hx hb d_Mod_crossing_113 rfl (lv_at hl 1 rfl) ?_
            refine xk_get (C := R_Mod) (T := F_Mod) (N := 23) hx hb hts i_Mod hown hK hP 0 xw_M_at_0 rfl 4 (by decide) u_670 rfl d_Mod_crossing_114 ?_
            refine lv_iload_n hx hb d_Mod_crossing_117 rfl (lv_at hl 3 rfl) ?_
            obtain ⟨v22, h_v22, hF⟩ := xo_ob hF
            refine xk_iald hx hb hK hP 4 xw_M_at_4 h_v22 d_Mod_crossing_118 ?_
            refine lv_imul hx hb d_Mod_crossing_119 ?_
            refine lv_aload_n hx hb d_Mod_crossing_120 rfl (lv_at hl 1 rfl) ?_
            refine xk_get (C := R_Mod) (T := F_Mod) (N := 23) hx hb hts i_Mod hown hK hP 0 xw_M_at_0 rfl 2 (by decide) u_668 rfl d_Mod_crossing_121 ?_
            refine lv_iload_n hx hb d_Mod_crossing_124 rfl (lv_at hl 3 rfl) ?_
            obtain ⟨v23, h_v23, hF⟩ := xo_ob hF
            refine xk_iald hx hb hK hP 2 xw_M_at_2 h_v23 d_Mod_crossing_125 ?_
            refine lv_aload_n hx hb d_Mod_crossing_126 rfl (lv_at hl 1 rfl) ?_
            refine xk_get (C := R_Mod) (T := F_Mod) (N := 23) hx hb hts i_Mod hown hK hP 0 xw_M_at_0 rfl 4 (by decide) u_670 rfl d_Mod_crossing_127 ?_
            refine lv_iload_n hx hb d_Mod_crossing_130 rfl (lv_at hl 2 rfl) ?_
            obtain ⟨v24, h_v24, hF⟩ := xo_ob hF
            refine xk_iald hx hb hK hP 4 xw_M_at_4 h_v24 d_Mod_crossing_131 ?_
            refine lv_imul hx hb d_Mod_crossing_132 ?_
            refine lv_isub hx hb d_Mod_crossing_133 ?_
            exact mg134 _ _ _ _ hF _ _ _ hP hS (lv_sub hl [4, 0] rfl)
          · replace hF := xo_if_f c_307 hF
            refine lv_aload_n hx hb d_Mod_crossing_77 rfl (lv_at hl 1 rfl) ?_
            refine xk_get (C := R_Mod) (T := F_Mod) (N := 23) hx hb hts i_Mod hown hK hP 0 xw_M_at_0 rfl 4 (by decide) u_670 rfl d_Mod_crossing_78 ?_
            refine lv_iload_n hx hb d_Mod_crossing_81 rfl (lv_at hl 2 rfl) ?_
            obtain ⟨v25, h_v25, hF⟩ := xo_ob hF
            refine xk_iald hx hb hK hP 4 xw_M_at_4 h_v25 d_Mod_crossing_82 ?_
            refine lv_aload_n hx hb d_Mod_crossing_83 rfl (lv_at hl 1 rfl) ?_
            refine xk_get (C := R_Mod) (T := F_Mod) (N := 23) hx hb hts i_Mod hown hK hP 0 xw_M_at_0 rfl 3 (by decide) u_669 rfl d_Mod_crossing_84 ?_
            refine lv_iload_n hx hb d_Mod_crossing_87 rfl (lv_at hl 3 rfl) ?_
            obtain ⟨v26, h_v26, hF⟩ := xo_ob hF
            refine xk_iald hx hb hK hP 3 xw_M_at_3 h_v26 d_Mod_crossing_88 ?_
            refine lv_imul hx hb d_Mod_crossing_89 ?_
            refine lv_aload_n hx hb d_Mod_crossing_90 rfl (lv_at hl 1 rfl) ?_
            refine xk_get (C := R_Mod) (T := F_Mod) (N := 23) hx hb hts i_Mod hown hK hP 0 xw_M_at_0 rfl 4 (by decide) u_670 rfl d_Mod_crossing_91 ?_
            refine lv_iload_n hx hb d_Mod_crossing_94 rfl (lv_at hl 3 rfl) ?_
            obtain ⟨v27, h_v27, hF⟩ := xo_ob hF
            refine xk_iald hx hb hK hP 4 xw_M_at_4 h_v27 d_Mod_crossing_95 ?_
            refine lv_aload_n hx hb d_Mod_crossing_96 rfl (lv_at hl 1 rfl) ?_
            refine xk_get (C := R_Mod) (T := F_Mod) (N := 23) hx hb hts i_Mod hown hK hP 0 xw_M_at_0 rfl 3 (by decide) u_669 rfl d_Mod_crossing_97 ?_
            refine lv_iload_n hx hb d_Mod_crossing_100 rfl (lv_at hl 2 rfl) ?_
            obtain ⟨v28, h_v28, hF⟩ := xo_ob hF
            refine xk_iald hx hb hK hP 3 xw_M_at_3 h_v28 d_Mod_crossing_101 ?_
            refine lv_imul hx hb d_Mod_crossing_102 ?_
            refine lv_isub hx hb d_Mod_crossing_103 ?_
            refine lv_goto (tgt := 134) hx hb d_Mod_crossing_104 (by decide) ?_
            exact mg134 _ _ _ _ hF _ _ _ hP hS (lv_sub hl [4, 0] rfl)
        · replace hF := xo_if_t c_306 hF
          refine lv_aload_n hx hb d_Mod_crossing_36 rfl (lv_at hl 0 rfl) ?_
          refine lv_bipush (v := (-2 : Int32)) hx hb d_Mod_crossing_37 (by decide) ?_
          obtain ⟨v14, t15, h_v14, hF⟩ := xo_ob2 hF
          refine xk_goI (xk_runV (As := [.int (-2 : Int32)]) (rest := []) hx hb hml hown hts hK hE (fun _ h => h) hP hS ok_Mod_noFar in_Mod_noFar u_790 (c_Mod_noFar l D cI cZ ad A adK adV hDw (-2 : Int32) st v14 t15 h_v14) (va_recv hK hP (ci := 4) (q0 := 0) rfl xw_M_at_0) (by decide) rfl hl.1 rfl (Nat.le_of_ble_eq_true rfl) d_Mod_crossing_39 ⟨Nat.le_refl _, Nat.le_refl _⟩) (fun _ h => h) hS (fun H locs hP hS => ?_)
          obtain ⟨q8, q9⟩ := xo_s2 hF
          subst q8
          subst q9
          exact hret 42 _ _ _ d_Mod_crossing_42 rfl hP hS
      · replace hF := xo_if_t c_305 hF
        exact mg21 _ hF _ _ _ hP hS (lv_sub hl [0] rfl)
set_option maxHeartbeats 4000000 in
set_option maxRecDepth 100000 in
theorem c_Mod_along (l : Launch) (D : va_G) (cI cZ : ClassId) (ad : Nat → Nat) (A : Nat → Prop) (adK adV : Nat → Nat) (hDw : ∀ st : XS, va_D A (xw_M ad cI cZ st)) (x1 : Int32) (x2 : Int32) (x3 : Int32) (st : XS) (r9 : Int32) (hF : F_Mod_along x1 x2 x3 st = some r9) : K_I l D cI cZ A adK adV (xw_M ad cI cZ) y_Mod_along b_Mod_along 5 (some .int) 0 0 [.ref (ad 0), .int x1, .int x2, .int x3] st r9 st := by
  refine xk_startI (by decide) .int rfl (Nat.le_of_ble_eq_true rfl) ?_
  intro p e s m args below meth c Q ls hx hb hml hown hts hK hE hP hS hl hret
  replace hown : s.vm.findClass R_Mod = some m.cls := hown
  replace hl : lv_has ls 5 [(0, .ref (ad 0)), (1, .int x1), (2, .int x2), (3, .int x3)] := hl
  unfold F_Mod_along at hF
  have mg38 : ∀ (x4 : Int32), F_Mod_along_m38 x4 st = some r9 → ∀ (H : Heap) (locs : List Loc) (ls : Array Slot), va_P D classes (xw_M ad cI cZ st) H → va_S A s.heap H locs → lv_has ls 5 [(4, .int x4)] → W p l e (xk_rm 0 0) s m args below meth c H locs 0 0 Q (F0 m 38 ls []) := by
    intro x4 hF H locs ls hP hS hl
    unfold F_Mod_along_m38 at hF
    refine lv_iload hx hb d_Mod_along_38 (lv_at hl 0 rfl) ?_
    refine lv_if_le (tgt := 47) hx hb d_Mod_along_40 (by decide) (fun c_308 => ?_) (fun c_308 => ?_)
    · replace hF := xo_if_t c_308 hF
      refine lv_iload hx hb d_Mod_along_47 (lv_at hl 0 rfl) ?_
      refine lv_if_ge (tgt := 56) hx hb d_Mod_along_49 (by decide) (fun c_309 => ?_) (fun c_309 => ?_)
      · replace hF := xo_if_t c_309 hF
        refine lv_iconst (v := (0 : Int32)) hx hb d_Mod_along_56 (by decide) ?_
        have q9 := Option.some.inj hF
        subst q9
        exact hret 57 _ _ _ d_Mod_along_57 rfl hP hS
      · replace hF := xo_if_f c_309 hF
        refine lv_iconst (v := (-1 : Int32)) hx hb d_Mod_along_52 (by decide) ?_
        refine lv_goto (tgt := 57) hx hb d_Mod_along_53 (by decide) ?_
        have q9 := Option.some.inj hF
        subst q9
        exact hret 57 _ _ _ d_Mod_along_57 rfl hP hS
    · replace hF := xo_if_f c_308 hF
      refine lv_iconst (v := (1 : Int32)) hx hb d_Mod_along_43 (by decide) ?_
      refine lv_goto (tgt := 57) hx hb d_Mod_along_44 (by decide) ?_
      have q9 := Option.some.inj hF
      subst q9
      exact hret 57 _ _ _ d_Mod_along_57 rfl hP hS
  refine lv_aload_n hx hb d_Mod_along_0 rfl (lv_at hl 0 rfl) ?_
  refine xk_get (C := R_Mod) (T := F_Mod) (N := 23) hx hb hts i_Mod hown hK hP 0 xw_M_at_0 rfl 3 (by decide) u_669 rfl d_Mod_along_1 ?_
  refine lv_iload_n hx hb d_Mod_along_4 rfl (lv_at hl 1 rfl) ?_
  obtain ⟨v1, h_v1, hF⟩ := xo_ob hF
  refine xk_iald hx hb hK hP 3 xw_M_at_3 h_v1 d_Mod_along_5 ?_
  refine lv_aload_n hx hb d_Mod_along_6 rfl (lv_at hl 0 rfl) ?_
  refine xk_get (C := R_Mod) (T := F_Mod) (N := 23) hx hb hts i_Mod hown hK hP 0 xw_M_at_0 rfl 2 (by decide) u_668 rfl d_Mod_along_7 ?_
  refine lv_iload_n hx hb d_Mod_along_10 rfl (lv_at hl 2 rfl) ?_
  obtain ⟨v2, h_v2, hF⟩ := xo_ob hF
  refine xk_iald hx hb hK hP 2 xw_M_at_2 h_v2 d_Mod_along_11 ?_
  refine lv_imul hx hb d_Mod_along_12 ?_
  refine lv_aload_n hx hb d_Mod_along_13 rfl (lv_at hl 0 rfl) ?_
  refine xk_get (C := R_Mod) (T := F_Mod) (N := 23) hx hb hts i_Mod hown hK hP 0 xw_M_at_0 rfl 2 (by decide) u_668 rfl d_Mod_along_14 ?_
  refine lv_iload_n hx hb d_Mod_along_17 rfl (lv_at hl 1 rfl) ?_
  obtain ⟨v3, h_v3, hF⟩ := xo_ob hF
  refine xk_iald hx hb hK hP 2 xw_M_at_2 h_v3 d_Mod_along_18 ?_
  refine lv_aload_n hx hb d_Mod_along_19 rfl (lv_at hl 0 rfl) ?_
  refine xk_get (C := R_Mod) (T := F_Mod) (N := 23) hx hb hts i_Mod hown hK hP 0 xw_M_at_0 rfl 3 (by decide) u_669 rfl d_Mod_along_20 ?_
  refine lv_iload_n hx hb d_Mod_along_23 rfl (lv_at hl 2 rfl) ?_
  obtain ⟨v4, h_v4, hF⟩ := xo_ob hF
  refine xk_iald hx hb hK hP 3 xw_M_at_3 h_v4 d_Mod_along_24 ?_
  refine lv_imul hx hb d_Mod_along_25 ?_
  refine lv_isub hx hb d_Mod_along_26 ?_
  refine lv_topi (fun v5 e_v5 => ?_)
  replace hF := xo_nm_u hF e_v5
  clear e_v5
  refine lv_istore (lv' := [(4, .int v5), (0, .ref (ad 0)), (1, .int x1), (2, .int x2), (3, .int x3)]) hx hb d_Mod_along_27 hl (by decide) rfl (fun ls hl => ?_)
  refine lv_iload_n hx hb d_Mod_along_29 rfl (lv_at hl 4 rfl) ?_
  refine lv_if_eq (tgt := 38) hx hb d_Mod_along_30 (by decide) (fun c_310 => ?_) (fun c_310 => ?_)
  · replace hF := xo_if_t c_310 hF
    exact mg38 _ hF _ _ _ hP hS (lv_sub hl [0] rfl)
  · replace hF := xo_if_f c_310 hF
    refine lv_iload hx hb d_Mod_along_33 (lv_at hl 0 rfl) ?_
    refine lv_ineg hx hb d_Mod_along_35 ?_
    refine lv_topi (fun v6 e_v6 => ?_)
    replace hF := xo_nm_u hF e_v6
    clear e_v6
    refine lv_istore (lv' := [(4, .int v6), (0, .ref (ad 0)), (1, .int x1), (2, .int x2), (3, .int x3)]) hx hb d_Mod_along_36 hl (by decide) rfl (fun ls hl => ?_)
    exact mg38 _ hF _ _ _ hP hS (lv_sub hl [0] rfl)
set_option maxHeartbeats 4000000 in
set_option maxRecDepth 100000 in
theorem c_Mod_has (l : Launch) (D : va_G) (cI cZ : ClassId) (ad : Nat → Nat) (A : Nat → Prop) (adK adV : Nat → Nat) (hDw : ∀ st : XS, va_D A (xw_M ad cI cZ st)) (x0 : Int32) (x1 : Int32) (st : XS) (r9 : Int32) (hF : F_Mod_has x0 x1 = some r9) : K_I l D cI cZ A adK adV (xw_M ad cI cZ) y_Mod_has b_Mod_has 2 (some .boolean) 0 0 [.int x0, .int x1] st r9 st := by
  refine xk_startI (by decide) .boolean rfl (Nat.le_of_ble_eq_true rfl) ?_
  intro p e s m args below meth c Q ls hx hb hml hown hts hK hE hP hS hl hret
  replace hown : s.vm.findClass R_Mod = some m.cls := hown
  replace hl : lv_has ls 2 [(0, .int x0), (1, .int x1)] := hl
  unfold F_Mod_has at hF
  refine lv_iload_n hx hb d_Mod_has_0 rfl (lv_at hl 0 rfl) ?_
  refine lv_iload_n hx hb d_Mod_has_1 rfl (lv_at hl 1 rfl) ?_
  refine lv_ishr hx hb d_Mod_has_2 ?_
  refine lv_iconst (v := (1 : Int32)) hx hb d_Mod_has_3 (by decide) ?_
  refine lv_iand hx hb d_Mod_has_4 ?_
  refine lv_iconst (v := (1 : Int32)) hx hb d_Mod_has_5 (by decide) ?_
  refine lv_icmp_ne (tgt := 13) hx hb d_Mod_has_6 (by decide) (fun c_311 => ?_) (fun c_311 => ?_)
  · replace hF := xo_if_f c_311 hF
    refine lv_iconst (v := (0 : Int32)) hx hb d_Mod_has_13 (by decide) ?_
    have q9 := Option.some.inj hF
    subst q9
    exact hret 14 _ _ _ d_Mod_has_14 rfl hP hS
  · replace hF := xo_if_t c_311 hF
    refine lv_iconst (v := (1 : Int32)) hx hb d_Mod_has_9 (by decide) ?_
    refine lv_goto (tgt := 14) hx hb d_Mod_has_10 (by decide) ?_
    have q9 := Option.some.inj hF
    subst q9
    exact hret 14 _ _ _ d_Mod_has_14 rfl hP hS
set_option maxHeartbeats 4000000 in
set_option maxRecDepth 100000 in
theorem c_Mod_isAbout (l : Launch) (D : va_G) (cI cZ : ClassId) (ad : Nat → Nat) (A : Nat → Prop) (adK adV : Nat → Nat) (hDw : ∀ st : XS, va_D A (xw_M ad cI cZ st)) (x1 : Int32) (x2 : Int32) (x3 : Int32) (st : XS) (r9 : Int32) (hF : F_Mod_isAbout x1 x2 x3 st = some r9) : K_I l D cI cZ A adK adV (xw_M ad cI cZ) y_Mod_isAbout b_Mod_isAbout 8 (some .boolean) 1 24 [.ref (ad 0), .int x1, .int x2, .int x3] st r9 st := by
  refine xk_startI (by decide) .boolean rfl (Nat.le_of_ble_eq_true rfl) ?_
  intro p e s m args below meth c Q ls hx hb hml hown hts hK hE hP hS hl hret
  replace hown : s.vm.findClass R_Mod = some m.cls := hown
  replace hl : lv_has ls 8 [(0, .ref (ad 0)), (1, .int x1), (2, .int x2), (3, .int x3)] := hl
  unfold F_Mod_isAbout at hF
  refine lv_iconst (v := (0 : Int32)) hx hb d_Mod_isAbout_0 (by decide) ?_
  refine lv_istore (lv' := [(4, .int (0 : Int32)), (0, .ref (ad 0)), (1, .int x1), (2, .int x2), (3, .int x3)]) hx hb d_Mod_isAbout_1 hl (by decide) rfl (fun ls hl => ?_)
  have lp3 : ∀ (n : Nat) (w3_4 : Int32) (y : (Unit ⊕ Unit)), xo_lp (fun q : Int32 => F_Mod_isAbout_b3 x1 x2 x3 st q) n w3_4 = some y → ((.inl ()) = y → ∀ (H : Heap) (locs : List Loc) (ls : Array Slot), va_P D classes (xw_M ad cI cZ st) H → va_S A s.heap H locs → lv_has ls 8 [] → W p l e (xk_rm 1 24) s m args below meth c H locs 0 0 Q (F0 m 113 ls [])) → ((.inr ()) = y → ∀ (H : Heap) (locs : List Loc) (ls : Array Slot), va_P D classes (xw_M ad cI cZ st) H → va_S A s.heap H locs → lv_has ls 8 [] → W p l e (xk_rm 1 24) s m args below meth c H locs 0 0 Q (F0 m 127 ls [])) → ∀ (H : Heap) (locs : List Loc) (ls : Array Slot), va_P D classes (xw_M ad cI cZ st) H → va_S A s.heap H locs → lv_has ls 8 [(0, .ref (ad 0)), (1, .int x1), (2, .int x2), (3, .int x3), (4, .int w3_4)] → W p l e (xk_rm 1 24) s m args below meth c H locs 0 0 Q (F0 m 3 ls []) := by
    intro n
    induction n with
    | zero =>
      intro w3_4 y hL
      exact nomatch (show (none : Option _) = some y from hL)
    | succ n ih =>
      intro w3_4 y hL kx0 kx1 H locs ls hP hS hl
      obtain ⟨z9, hB, hL⟩ := xo_lp_s hL
      replace hB : F_Mod_isAbout_b3 x1 x2 x3 st w3_4 = some z9 := hB
      unfold F_Mod_isAbout_b3 at hB
      refine lv_iload hx hb d_Mod_isAbout_3 (lv_at hl 4 rfl) ?_
      refine lv_iload_n hx hb d_Mod_isAbout_5 rfl (lv_at hl 3 rfl) ?_
      refine lv_icmp_ge (tgt := 127) hx hb d_Mod_isAbout_6 (by decide) (fun c_312 => ?_) (fun c_312 => ?_)
      · replace hB := xo_if_t c_312 hB
        have q9 := Option.some.inj hB
        subst q9
        replace hL := Option.some.inj (xo_elR hL)
        subst hL
        exact kx1  rfl _ _ _ hP hS (lv_sub hl [] rfl)
      · replace hB := xo_if_f c_312 hB
        refine lv_iload_n hx hb d_Mod_isAbout_9 rfl (lv_at hl 1 rfl) ?_
        refine lv_iload hx hb d_Mod_isAbout_10 (lv_at hl 4 rfl) ?_
        obtain ⟨v1, h_v1, hB⟩ := xo_ob hB
        refine xk_goI (xk_runS (As := [.int x1, .int w3_4]) (rest := []) hx hb hml hown hts hK hE (fun _ h => h) hP hS ok_Mod_has st_Mod_has u_842 (c_Mod_has l D cI cZ ad A adK adV hDw x1 w3_4 st v1 h_v1) (by decide) rfl hl.1 rfl (Nat.le_of_ble_eq_true rfl) d_Mod_isAbout_12 ⟨Nat.le_refl _, Nat.le_refl _⟩) (fun _ h => h) hS (fun H locs hP hS => ?_)
        refine lv_if_ne (tgt := 21) hx hb d_Mod_isAbout_15 (by decide) (fun c_313 => ?_) (fun c_313 => ?_)
        · replace hB := xo_if_f c_313 hB
          refine lv_iconst (v := (0 : Int32)) hx hb d_Mod_isAbout_21 (by decide) ?_
          refine lv_istore (lv' := [(5, .int (0 : Int32)), (0, .ref (ad 0)), (1, .int x1), (2, .int x2), (3, .int x3), (4, .int w3_4)]) hx hb d_Mod_isAbout_22 hl (by decide) rfl (fun ls hl => ?_)
          have lp24 : ∀ (n : Nat) (w24_5 : Int32) (y : (Unit ⊕ Unit)), xo_lp (fun q : Int32 => F_Mod_isAbout_b24 x1 x2 x3 w3_4 st q) n w24_5 = some y → ((.inl ()) = y → ∀ (H : Heap) (locs : List Loc) (ls : Array Slot), va_P D classes (xw_M ad cI cZ st) H → va_S A s.heap H locs → lv_has ls 8 [] → W p l e (xk_rm 1 24) s m args below meth c H locs 0 0 Q (F0 m 113 ls [])) → ((.inr ()) = y → ∀ (H : Heap) (locs : List Loc) (ls : Array Slot), va_P D classes (xw_M ad cI cZ st) H → va_S A s.heap H locs → lv_has ls 8 [(0, .ref (ad 0)), (1, .int x1), (2, .int x2), (3, .int x3), (4, .int w3_4)] → W p l e (xk_rm 1 24) s m args below meth c H locs 0 0 Q (F0 m 121 ls [])) → ∀ (H : Heap) (locs : List Loc) (ls : Array Slot), va_P D classes (xw_M ad cI cZ st) H → va_S A s.heap H locs → lv_has ls 8 [(0, .ref (ad 0)), (1, .int x1), (2, .int x2), (3, .int x3), (4, .int w3_4), (5, .int w24_5)] → W p l e (xk_rm 1 24) s m args below meth c H locs 0 0 Q (F0 m 24 ls []) := by
            intro n
            induction n with
            | zero =>
              intro w24_5 y hL
              exact nomatch (show (none : Option _) = some y from hL)
            | succ n ih =>
              intro w24_5 y hL kx0 kx1 H locs ls hP hS hl
              obtain ⟨z9, hB, hL⟩ := xo_lp_s hL
              replace hB : F_Mod_isAbout_b24 x1 x2 x3 w3_4 st w24_5 = some z9 := hB
              unfold F_Mod_isAbout_b24 at hB
              refine lv_iload hx hb d_Mod_isAbout_24 (lv_at hl 5 rfl) ?_
              refine lv_iconst (v := (2 : Int32)) hx hb d_Mod_isAbout_26 (by decide) ?_
              refine lv_icmp_ge (tgt := 121) hx hb d_Mod_isAbout_27 (by decide) (fun c_314 => ?_) (fun c_314 => ?_)
              · replace hB := xo_if_t c_314 hB
                have q9 := Option.some.inj hB
                subst q9
                replace hL := Option.some.inj (xo_elR hL)
                subst hL
                exact kx1  rfl _ _ _ hP hS (lv_sub hl [0, 1, 2, 3, 4] rfl)
              · replace hB := xo_if_f c_314 hB
                refine lv_iconst (v := (1 : Int32)) hx hb d_Mod_isAbout_30 (by decide) ?_
                refine lv_istore (lv' := [(6, .int (1 : Int32)), (0, .ref (ad 0)), (1, .int x1), (2, .int x2), (3, .int x3), (4, .int w3_4), (5, .int w24_5)]) hx hb d_Mod_isAbout_31 hl (by decide) rfl (fun ls hl => ?_)
                refine lv_iconst (v := (0 : Int32)) hx hb d_Mod_isAbout_33 (by decide) ?_
                refine lv_istore (lv' := [(7, .int (0 : Int32)), (6, .int (1 : Int32)), (0, .ref (ad 0)), (1, .int x1), (2, .int x2), (3, .int x3), (4, .int w3_4), (5, .int w24_5)]) hx hb d_Mod_isAbout_34 hl (by decide) rfl (fun ls hl => ?_)
                have lp36 : ∀ (n : Nat) (w36_6 : Int32) (w36_7 : Int32) (y : Int32), xo_lp (fun q : (Int32 × Int32) => F_Mod_isAbout_b36 x1 x2 x3 w3_4 w24_5 st q.1 q.2) n (w36_6, w36_7) = some y → (∀ (e6 : Int32), e6 = y → ∀ (H : Heap) (locs : List Loc) (ls : Array Slot), va_P D classes (xw_M ad cI cZ st) H → va_S A s.heap H locs → lv_has ls 8 [(0, .ref (ad 0)), (1, .int x1), (2, .int x2), (3, .int x3), (4, .int w3_4), (5, .int w24_5), (6, .int e6)] → W p l e (xk_rm 1 24) s m args below meth c H locs 0 0 Q (F0 m 108 ls [])) → ∀ (H : Heap) (locs : List Loc) (ls : Array Slot), va_P D classes (xw_M ad cI cZ st) H → va_S A s.heap H locs → lv_has ls 8 [(0, .ref (ad 0)), (1, .int x1), (2, .int x2), (3, .int x3), (4, .int w3_4), (5, .int w24_5), (6, .int w36_6), (7, .int w36_7)] → W p l e (xk_rm 1 24) s m args below meth c H locs 0 0 Q (F0 m 36 ls []) := by
                  intro n
                  induction n with
                  | zero =>
                    intro w36_6 w36_7 y hL
                    exact nomatch (show (none : Option _) = some y from hL)
                  | succ n ih =>
                    intro w36_6 w36_7 y hL kx0 H locs ls hP hS hl
                    obtain ⟨z9, hB, hL⟩ := xo_lp_s hL
                    replace hB : F_Mod_isAbout_b36 x1 x2 x3 w3_4 w24_5 st w36_6 w36_7 = some z9 := hB
                    unfold F_Mod_isAbout_b36 at hB
                    have mg90 : ∀ (x6 : Int32) (x7 : Int32) (k0 : Int32), F_Mod_isAbout_m90 x1 x2 x3 w3_4 w24_5 x6 x7 k0 st = some z9 → ∀ (H : Heap) (locs : List Loc) (ls : Array Slot), va_P D classes (xw_M ad cI cZ st) H → va_S A s.heap H locs → lv_has ls 8 [(0, .ref (ad 0)), (1, .int x1), (2, .int x2), (3, .int x3), (4, .int w3_4), (5, .int w24_5), (6, .int x6), (7, .int x7)] → W p l e (xk_rm 1 24) s m args below meth c H locs 0 0 Q (F0 m 90 ls [.int k0]) := by
                      intro x6 x7 k0 hB H locs ls hP hS hl
                      unfold F_Mod_isAbout_m90 at hB
                      refine lv_iload_n hx hb d_Mod_isAbout_90 rfl (lv_at hl 2 rfl) ?_
                      refine lv_iload hx hb d_Mod_isAbout_91 (lv_at hl 7 rfl) ?_
                      obtain ⟨v4, h_v4, hB⟩ := xo_ob hB
                      refine xk_goI (xk_runS (As := [.int x2, .int x7]) (rest := [.int k0]) hx hb hml hown hts hK hE (fun _ h => h) hP hS ok_Mod_has st_Mod_has u_842 (c_Mod_has l D cI cZ ad A adK adV hDw x2 x7 st v4 h_v4) (by decide) rfl hl.1 rfl (Nat.le_of_ble_eq_true rfl) d_Mod_isAbout_93 ⟨Nat.le_refl _, Nat.le_refl _⟩) (fun _ h => h) hS (fun H locs hP hS => ?_)
                      refine lv_icmp_eq (tgt := 102) hx hb d_Mod_isAbout_96 (by decide) (fun c_315 => ?_) (fun c_315 => ?_)
                      · replace hB := xo_if_t c_315 hB
                        obtain ⟨v5, e_v5, hB⟩ := xo_nm_e hB
                        refine lv_iinc (v := v5) (lv' := [(7, .int v5), (0, .ref (ad 0)), (1, .int x1), (2, .int x2), (3, .int x3), (4, .int w3_4), (5, .int w24_5), (6, .int x6)]) hx hb d_Mod_isAbout_102 hl (k := 7) rfl (by rw [e_v5]; rfl) (by decide) rfl (fun ls hl => ?_)
                        clear e_v5
                        refine lv_goto (tgt := 36) hx hb d_Mod_isAbout_105 (by decide) ?_
                        have q9 := Option.some.inj hB
                        subst q9
                        exact ih _ _ _ (xo_elL hL) kx0 _ _ _ hP hS (lv_sub hl [1, 2, 3, 4, 5, 6, 7, 0] rfl)
                      · replace hB := xo_if_f c_315 hB
                        refine lv_iconst (v := (0 : Int32)) hx hb d_Mod_isAbout_99 (by decide) ?_
                        refine lv_istore (lv' := [(6, .int (0 : Int32)), (0, .ref (ad 0)), (1, .int x1), (2, .int x2), (3, .int x3), (4, .int w3_4), (5, .int w24_5), (7, .int x7)]) hx hb d_Mod_isAbout_100 hl (by decide) rfl (fun ls hl => ?_)
                        obtain ⟨v6, e_v6, hB⟩ := xo_nm_e hB
                        refine lv_iinc (v := v6) (lv' := [(7, .int v6), (6, .int (0 : Int32)), (0, .ref (ad 0)), (1, .int x1), (2, .int x2), (3, .int x3), (4, .int w3_4), (5, .int w24_5)]) hx hb d_Mod_isAbout_102 hl (k := 7) rfl (by rw [e_v6]; rfl) (by decide) rfl (fun ls hl => ?_)
                        clear e_v6
                        refine lv_goto (tgt := 36) hx hb d_Mod_isAbout_105 (by decide) ?_
                        have q9 := Option.some.inj hB
                        subst q9
                        exact ih _ _ _ (xo_elL hL) kx0 _ _ _ hP hS (lv_sub hl [2, 3, 4, 5, 6, 7, 1, 0] rfl)
                    have mg79 : ∀ (x6 : Int32) (x7 : Int32) (k1 : Int32) (k2 : Int32) (k3 : Int32), F_Mod_isAbout_m79 x1 x2 x3 w3_4 w24_5 x6 x7 k1 k2 k3 st = some z9 → ∀ (H : Heap) (locs : List Loc) (ls : Array Slot), va_P D classes (xw_M ad cI cZ st) H → va_S A s.heap H locs → lv_has ls 8 [(0, .ref (ad 0)), (1, .int x1), (2, .int x2), (3, .int x3), (4, .int w3_4), (5, .int w24_5), (6, .int x6), (7, .int x7)] → W p l e (xk_rm 1 24) s m args below meth c H locs 0 0 Q (F0 m 79 ls [.int k3, .int k2, .int k1, .ref (ad 0)]) := by
                      intro x6 x7 k1 k2 k3 hB H locs ls hP hS hl
                      unfold F_Mod_isAbout_m79 at hB
                      obtain ⟨v7, h_v7, hB⟩ := xo_ob hB
                      refine xk_goI (xk_runV (As := [.int k1, .int k2, .int k3]) (rest := []) hx hb hml hown hts hK hE (fun _ h => h) hP hS ok_Mod_along in_Mod_along u_832 (c_Mod_along l D cI cZ ad A adK adV hDw k1 k2 k3 st v7 h_v7) (va_recv hK hP (ci := 4) (q0 := 0) rfl xw_M_at_0) (by decide) rfl hl.1 rfl (Nat.le_of_ble_eq_true rfl) d_Mod_isAbout_79 ⟨Nat.le_refl _, Nat.le_refl _⟩) (fun _ h => h) hS (fun H locs hP hS => ?_)
                      refine lv_if_le (tgt := 89) hx hb d_Mod_isAbout_82 (by decide) (fun c_316 => ?_) (fun c_316 => ?_)
                      · replace hB := xo_if_t c_316 hB
                        refine lv_iconst (v := (0 : Int32)) hx hb d_Mod_isAbout_89 (by decide) ?_
                        exact mg90 _ _ _ hB _ _ _ hP hS (lv_sub hl [0, 1, 2, 3, 4, 5, 6, 7] rfl)
                      · replace hB := xo_if_f c_316 hB
                        refine lv_iconst (v := (1 : Int32)) hx hb d_Mod_isAbout_85 (by decide) ?_
                        refine lv_goto (tgt := 90) hx hb d_Mod_isAbout_86 (by decide) ?_
                        exact mg90 _ _ _ hB _ _ _ hP hS (lv_sub hl [0, 1, 2, 3, 4, 5, 6, 7] rfl)
                    refine lv_iload hx hb d_Mod_isAbout_36 (lv_at hl 7 rfl) ?_
                    refine lv_iload_n hx hb d_Mod_isAbout_38 rfl (lv_at hl 3 rfl) ?_
                    refine lv_icmp_ge (tgt := 108) hx hb d_Mod_isAbout_39 (by decide) (fun c_317 => ?_) (fun c_317 => ?_)
                    · replace hB := xo_if_t c_317 hB
                      have q9 := Option.some.inj hB
                      subst q9
                      replace hL := Option.some.inj (xo_elR hL)
                      subst hL
                      exact kx0 _ rfl _ _ _ hP hS (lv_sub hl [0, 1, 2, 3, 4, 5, 6] rfl)
                    · replace hB := xo_if_f c_317 hB
                      refine lv_iload hx hb d_Mod_isAbout_42 (lv_at hl 6 rfl) ?_
                      refine lv_if_eq (tgt := 108) hx hb d_Mod_isAbout_44 (by decide) (fun c_318 => ?_) (fun c_318 => ?_)
                      · replace hB := xo_if_t c_318 hB
                        have q9 := Option.some.inj hB
                        subst q9
                        replace hL := Option.some.inj (xo_elR hL)
                        subst hL
                        exact kx0 _ rfl _ _ _ hP hS (lv_sub hl [0, 1, 2, 3, 4, 5, 6] rfl)
                      · replace hB := xo_if_f c_318 hB
                        refine lv_iload hx hb d_Mod_isAbout_47 (lv_at hl 7 rfl) ?_
                        refine lv_iload hx hb d_Mod_isAbout_49 (lv_at hl 4 rfl) ?_
                        refine lv_icmp_eq (tgt := 102) hx hb d_Mod_isAbout_51 (by decide) (fun c_319 => ?_) (fun c_319 => ?_)
                        · replace hB := xo_if_t c_319 hB
                          obtain ⟨v8, e_v8, hB⟩ := xo_nm_e hB
                          refine lv_iinc (v := v8) (lv' := [(7, .int v8), (0, .ref (ad 0)), (1, .int x1), (2, .int x2), (3, .int x3), (4, .int w3_4), (5, .int w24_5), (6, .int w36_6)]) hx hb d_Mod_isAbout_102 hl (k := 7) rfl (by rw [e_v8]; rfl) (by decide) rfl (fun ls hl => ?_)
                          clear e_v8
                          refine lv_goto (tgt := 36) hx hb d_Mod_isAbout_105 (by decide) ?_
                          have q9 := Option.some.inj hB
                          subst q9
                          exact ih _ _ _ (xo_elL hL) kx0 _ _ _ hP hS (lv_sub hl [1, 2, 3, 4, 5, 6, 7, 0] rfl)
                        · replace hB := xo_if_f c_319 hB
                          refine lv_iload_n hx hb d_Mod_isAbout_54 rfl (lv_at hl 1 rfl) ?_
                          refine lv_iload hx hb d_Mod_isAbout_55 (lv_at hl 7 rfl) ?_
                          obtain ⟨v9, h_v9, hB⟩ := xo_ob hB
                          refine xk_goI (xk_runS (As := [.int x1, .int w36_7]) (rest := []) hx hb hml hown hts hK hE (fun _ h => h) hP hS ok_Mod_has st_Mod_has u_842 (c_Mod_has l D cI cZ ad A adK adV hDw x1 w36_7 st v9 h_v9) (by decide) rfl hl.1 rfl (Nat.le_of_ble_eq_true rfl) d_Mod_isAbout_57 ⟨Nat.le_refl _, Nat.le_refl _⟩) (fun _ h => h) hS (fun H locs hP hS => ?_)
                          refine lv_if_eq (tgt := 102) hx hb d_Mod_isAbout_60 (by decide) (fun c_320 => ?_) (fun c_320 => ?_)
                          · replace hB := xo_if_t c_320 hB
                            obtain ⟨v10, e_v10, hB⟩ := xo_nm_e hB
                            refine lv_iinc (v := v10) (lv' := [(7, .int v10), (0, .ref (ad 0)), (1, .int x1), (2, .int x2), (3, .int x3), (4, .int w3_4), (5, .int w24_5), (6, .int w36_6)]) hx hb d_Mod_isAbout_102 hl (k := 7) rfl (by rw [e_v10]; rfl) (by decide) rfl (fun ls hl => ?_)
                            clear e_v10
                            refine lv_goto (tgt := 36) hx hb d_Mod_isAbout_105 (by decide) ?_
                            have q9 := Option.some.inj hB
                            subst q9
                            exact ih _ _ _ (xo_elL hL) kx0 _ _ _ hP hS (lv_sub hl [1, 2, 3, 4, 5, 6, 7, 0] rfl)
                          · replace hB := xo_if_f c_320 hB
                            refine lv_aload_n hx hb d_Mod_isAbout_63 rfl (lv_at hl 0 rfl) ?_
                            refine lv_iload hx hb d_Mod_isAbout_64 (lv_at hl 7 rfl) ?_
                            refine lv_iload hx hb d_Mod_isAbout_66 (lv_at hl 4 rfl) ?_
                            refine lv_iload hx hb d_Mod_isAbout_68 (lv_at hl 5 rfl) ?_
                            refine lv_iconst (v := (1 : Int32)) hx hb d_Mod_isAbout_70 (by decide) ?_
                            refine lv_icmp_ne (tgt := 78) hx hb d_Mod_isAbout_71 (by decide) (fun c_321 => ?_) (fun c_321 => ?_)
                            · replace hB := xo_if_f c_321 hB
                              refine lv_iconst (v := (0 : Int32)) hx hb d_Mod_isAbout_78 (by decide) ?_
                              exact mg79 _ _ _ _ _ hB _ _ _ hP hS (lv_sub hl [0, 1, 2, 3, 4, 5, 6, 7] rfl)
                            · replace hB := xo_if_t c_321 hB
                              refine lv_iconst (v := (1 : Int32)) hx hb d_Mod_isAbout_74 (by decide) ?_
                              refine lv_goto (tgt := 79) hx hb d_Mod_isAbout_75 (by decide) ?_
                              exact mg79 _ _ _ _ _ hB _ _ _ hP hS (lv_sub hl [0, 1, 2, 3, 4, 5, 6, 7] rfl)
                obtain ⟨y36, hL36, hB⟩ := xo_ob hB
                refine lp36 1000000 (1 : Int32) (0 : Int32) y36 hL36 ?_ _ _ _ hP hS (lv_sub hl [2, 3, 4, 5, 6, 7, 1, 0] rfl)
                intro o3 ey H locs ls hP hS hl
                subst ey
                refine lv_iload hx hb d_Mod_isAbout_108 (lv_at hl 6 rfl) ?_
                refine lv_if_eq (tgt := 115) hx hb d_Mod_isAbout_110 (by decide) (fun c_322 => ?_) (fun c_322 => ?_)
                · replace hB := xo_if_t c_322 hB
                  obtain ⟨v11, e_v11, hB⟩ := xo_nm_e hB
                  refine lv_iinc (v := v11) (lv' := [(5, .int v11), (0, .ref (ad 0)), (1, .int x1), (2, .int x2), (3, .int x3), (4, .int w3_4), (6, .int o3)]) hx hb d_Mod_isAbout_115 hl (k := 5) rfl (by rw [e_v11]; rfl) (by decide) rfl (fun ls hl => ?_)
                  clear e_v11
                  refine lv_goto (tgt := 24) hx hb d_Mod_isAbout_118 (by decide) ?_
                  have q9 := Option.some.inj hB
                  subst q9
                  exact ih _ _ (xo_elL hL) kx0 kx1 _ _ _ hP hS (lv_sub hl [1, 2, 3, 4, 5, 0] rfl)
                · replace hB := xo_if_f c_322 hB
                  have q9 := Option.some.inj hB
                  subst q9
                  replace hL := Option.some.inj (xo_elR hL)
                  subst hL
                  exact kx0  rfl _ _ _ hP hS (lv_sub hl [] rfl)
          obtain ⟨y24, hL24, hB⟩ := xo_ob hB
          refine lp24 1000000 (0 : Int32) y24 hL24 ?_ ?_ _ _ _ hP hS (lv_sub hl [1, 2, 3, 4, 5, 0] rfl)
          · intro  ey H locs ls hP hS hl
            subst ey
            replace hB := xo_elL hB
            have q9 := Option.some.inj hB
            subst q9
            replace hL := Option.some.inj (xo_elR hL)
            subst hL
            exact kx0  rfl _ _ _ hP hS (lv_sub hl [] rfl)
          · intro  ey H locs ls hP hS hl
            subst ey
            replace hB := xo_elR hB
            obtain ⟨v12, e_v12, hB⟩ := xo_nm_e hB
            refine lv_iinc (v := v12) (lv' := [(4, .int v12), (0, .ref (ad 0)), (1, .int x1), (2, .int x2), (3, .int x3)]) hx hb d_Mod_isAbout_121 hl (k := 4) rfl (by rw [e_v12]; rfl) (by decide) rfl (fun ls hl => ?_)
            clear e_v12
            refine lv_goto (tgt := 3) hx hb d_Mod_isAbout_124 (by decide) ?_
            have q9 := Option.some.inj hB
            subst q9
            exact ih _ _ (xo_elL hL) kx0 kx1 _ _ _ hP hS (lv_sub hl [1, 2, 3, 4, 0] rfl)
        · replace hB := xo_if_t c_313 hB
          refine lv_goto (tgt := 121) hx hb d_Mod_isAbout_18 (by decide) ?_
          obtain ⟨v2, e_v2, hB⟩ := xo_nm_e hB
          refine lv_iinc (v := v2) (lv' := [(4, .int v2), (0, .ref (ad 0)), (1, .int x1), (2, .int x2), (3, .int x3)]) hx hb d_Mod_isAbout_121 hl (k := 4) rfl (by rw [e_v2]; rfl) (by decide) rfl (fun ls hl => ?_)
          clear e_v2
          refine lv_goto (tgt := 3) hx hb d_Mod_isAbout_124 (by decide) ?_
          have q9 := Option.some.inj hB
          subst q9
          exact ih _ _ (xo_elL hL) kx0 kx1 _ _ _ hP hS (lv_sub hl [1, 2, 3, 4, 0] rfl)
  obtain ⟨y3, hL3, hF⟩ := xo_ob hF
  refine lp3 1000000 (0 : Int32) y3 hL3 ?_ ?_ _ _ _ hP hS (lv_sub hl [1, 2, 3, 4, 0] rfl)
  · intro  ey H locs ls hP hS hl
    subst ey
    replace hF := xo_elL hF
    refine lv_iconst (v := (1 : Int32)) hx hb d_Mod_isAbout_113 (by decide) ?_
    have q9 := Option.some.inj hF
    subst q9
    exact hret 114 _ _ _ d_Mod_isAbout_114 rfl hP hS
  · intro  ey H locs ls hP hS hl
    subst ey
    replace hF := xo_elR hF
    refine lv_iconst (v := (0 : Int32)) hx hb d_Mod_isAbout_127 (by decide) ?_
    have q9 := Option.some.inj hF
    subst q9
    exact hret 128 _ _ _ d_Mod_isAbout_128 rfl hP hS
set_option maxHeartbeats 4000000 in
set_option maxRecDepth 100000 in
theorem c_Mod_lay (l : Launch) (D : va_G) (cI cZ : ClassId) (ad : Nat → Nat) (A : Nat → Prop) (adK adV : Nat → Nat) (hDw : ∀ st : XS, va_D A (xw_M ad cI cZ st)) (x1 : Int32) (st : XS) (st9 : XS) (hF : F_Mod_lay x1 st = some st9) : K_V l D cI cZ A adK adV (xw_M ad cI cZ) y_Mod_lay b_Mod_lay 9 none 2 51 [.ref (ad 0), .int x1] st st9 := by
  refine xk_startV (by decide) rfl (Nat.le_of_ble_eq_true rfl) ?_
  intro p e s m args below meth c Q ls hx hb hml hown hts hK hE hP hS hl hret
  replace hown : s.vm.findClass R_Mod = some m.cls := hown
  replace hl : lv_has ls 9 [(0, .ref (ad 0)), (1, .int x1)] := hl
  unfold F_Mod_lay at hF
  have mg62 : ∀ (x1 : Int32) (xs : XS), F_Mod_lay_m62 x1 xs = some st9 → ∀ (H : Heap) (locs : List Loc) (ls : Array Slot), va_P D classes (xw_M ad cI cZ xs) H → va_S A s.heap H locs → lv_has ls 9 [(0, .ref (ad 0)), (1, .int x1)] → W p l e (xk_rm 2 51) s m args below meth c H locs 0 0 Q (F0 m 62 ls []) := by
    intro x1 xs hF H locs ls hP hS hl
    unfold F_Mod_lay_m62 at hF
    refine lv_iconst (v := (0 : Int32)) hx hb d_Mod_lay_62 (by decide) ?_
    refine lv_istore_n (lv' := [(2, .int (0 : Int32)), (0, .ref (ad 0)), (1, .int x1)]) hx hb d_Mod_lay_63 rfl hl (by decide) rfl (fun ls hl => ?_)
    have lp64 : ∀ (n : Nat) (w64_2 : Int32) (w64_s : XS) (y : XS), xo_lp (fun q : (Int32 × XS) => F_Mod_lay_b64 x1 q.1 q.2) n (w64_2, w64_s) = some y → (∀  (es : XS), es = y → ∀ (H : Heap) (locs : List Loc) (ls : Array Slot), va_P D classes (xw_M ad cI cZ es) H → va_S A s.heap H locs → lv_has ls 9 [(0, .ref (ad 0)), (1, .int x1)] → W p l e (xk_rm 2 51) s m args below meth c H locs 0 0 Q (F0 m 181 ls [])) → ∀ (H : Heap) (locs : List Loc) (ls : Array Slot), va_P D classes (xw_M ad cI cZ w64_s) H → va_S A s.heap H locs → lv_has ls 9 [(0, .ref (ad 0)), (1, .int x1), (2, .int w64_2)] → W p l e (xk_rm 2 51) s m args below meth c H locs 0 0 Q (F0 m 64 ls []) := by
      intro n
      induction n with
      | zero =>
        intro w64_2 w64_s y hL
        exact nomatch (show (none : Option _) = some y from hL)
      | succ n ih =>
        intro w64_2 w64_s y hL kx0 H locs ls hP hS hl
        obtain ⟨z9, hB, hL⟩ := xo_lp_s hL
        replace hB : F_Mod_lay_b64 x1 w64_2 w64_s = some z9 := hB
        unfold F_Mod_lay_b64 at hB
        refine lv_iload_n hx hb d_Mod_lay_64 rfl (lv_at hl 2 rfl) ?_
        refine lv_iload_n hx hb d_Mod_lay_65 rfl (lv_at hl 1 rfl) ?_
        refine lv_icmp_ge (tgt := 181) hx hb d_Mod_lay_66 (by decide) (fun c_323 => ?_) (fun c_323 => ?_)
        · replace hB := xo_if_t c_323 hB
          have q9 := Option.some.inj hB
          subst q9
          replace hL := Option.some.inj (xo_elR hL)
          subst hL
          exact kx0 _ rfl _ _ _ hP hS (lv_sub hl [0, 1] rfl)
        · replace hB := xo_if_f c_323 hB
          refine lv_iconst (v := (0 : Int32)) hx hb d_Mod_lay_69 (by decide) ?_
          refine lv_istore_n (lv' := [(3, .int (0 : Int32)), (0, .ref (ad 0)), (1, .int x1), (2, .int w64_2)]) hx hb d_Mod_lay_70 rfl hl (by decide) rfl (fun ls hl => ?_)
          have lp71 : ∀ (n : Nat) (w71_3 : Int32) (w71_s : XS) (y : XS), xo_lp (fun q : (Int32 × XS) => F_Mod_lay_b71 x1 w64_2 q.1 q.2) n (w71_3, w71_s) = some y → (∀  (es : XS), es = y → ∀ (H : Heap) (locs : List Loc) (ls : Array Slot), va_P D classes (xw_M ad cI cZ es) H → va_S A s.heap H locs → lv_has ls 9 [(0, .ref (ad 0)), (1, .int x1), (2, .int w64_2)] → W p l e (xk_rm 2 51) s m args below meth c H locs 0 0 Q (F0 m 175 ls [])) → ∀ (H : Heap) (locs : List Loc) (ls : Array Slot), va_P D classes (xw_M ad cI cZ w71_s) H → va_S A s.heap H locs → lv_has ls 9 [(0, .ref (ad 0)), (1, .int x1), (2, .int w64_2), (3, .int w71_3)] → W p l e (xk_rm 2 51) s m args below meth c H locs 0 0 Q (F0 m 71 ls []) := by
            intro n
            induction n with
            | zero =>
              intro w71_3 w71_s y hL
              exact nomatch (show (none : Option _) = some y from hL)
            | succ n ih =>
              intro w71_3 w71_s y hL kx0 H locs ls hP hS hl
              obtain ⟨z9, hB, hL⟩ := xo_lp_s hL
              replace hB : F_Mod_lay_b71 x1 w64_2 w71_3 w71_s = some z9 := hB
              unfold F_Mod_lay_b71 at hB
              refine lv_iload_n hx hb d_Mod_lay_71 rfl (lv_at hl 3 rfl) ?_
              refine lv_iconst (v := (2 : Int32)) hx hb d_Mod_lay_72 (by decide) ?_
              refine lv_icmp_ge (tgt := 175) hx hb d_Mod_lay_73 (by decide) (fun c_324 => ?_) (fun c_324 => ?_)
              · replace hB := xo_if_t c_324 hB
                have q9 := Option.some.inj hB
                subst q9
                replace hL := Option.some.inj (xo_elR hL)
                subst hL
                exact kx0 _ rfl _ _ _ hP hS (lv_sub hl [0, 1, 2] rfl)
              · replace hB := xo_if_f c_324 hB
                refine lv_iconst (v := (0 : Int32)) hx hb d_Mod_lay_76 (by decide) ?_
                refine lv_istore (lv' := [(4, .int (0 : Int32)), (0, .ref (ad 0)), (1, .int x1), (2, .int w64_2), (3, .int w71_3)]) hx hb d_Mod_lay_77 hl (by decide) rfl (fun ls hl => ?_)
                refine lv_iconst (v := (0 : Int32)) hx hb d_Mod_lay_79 (by decide) ?_
                refine lv_istore (lv' := [(5, .int (0 : Int32)), (4, .int (0 : Int32)), (0, .ref (ad 0)), (1, .int x1), (2, .int w64_2), (3, .int w71_3)]) hx hb d_Mod_lay_80 hl (by decide) rfl (fun ls hl => ?_)
                have lp82 : ∀ (n : Nat) (w82_4 : Int32) (w82_5 : Int32) (y : Int32), xo_lp (fun q : (Int32 × Int32) => F_Mod_lay_b82 x1 w64_2 w71_3 w71_s q.1 q.2) n (w82_4, w82_5) = some y → (∀ (e4 : Int32), e4 = y → ∀ (H : Heap) (locs : List Loc) (ls : Array Slot), va_P D classes (xw_M ad cI cZ w71_s) H → va_S A s.heap H locs → lv_has ls 9 [(0, .ref (ad 0)), (1, .int x1), (2, .int w64_2), (3, .int w71_3), (4, .int e4)] → W p l e (xk_rm 2 51) s m args below meth c H locs 0 0 Q (F0 m 129 ls [])) → ∀ (H : Heap) (locs : List Loc) (ls : Array Slot), va_P D classes (xw_M ad cI cZ w71_s) H → va_S A s.heap H locs → lv_has ls 9 [(0, .ref (ad 0)), (1, .int x1), (2, .int w64_2), (3, .int w71_3), (4, .int w82_4), (5, .int w82_5)] → W p l e (xk_rm 2 51) s m args below meth c H locs 0 0 Q (F0 m 82 ls []) := by
                  intro n
                  induction n with
                  | zero =>
                    intro w82_4 w82_5 y hL
                    exact nomatch (show (none : Option _) = some y from hL)
                  | succ n ih =>
                    intro w82_4 w82_5 y hL kx0 H locs ls hP hS hl
                    obtain ⟨z9, hB, hL⟩ := xo_lp_s hL
                    replace hB : F_Mod_lay_b82 x1 w64_2 w71_3 w71_s w82_4 w82_5 = some z9 := hB
                    unfold F_Mod_lay_b82 at hB
                    have mg108 : ∀ (x4 : Int32) (x5 : Int32) (k1 : Int32) (k2 : Int32) (k3 : Int32), F_Mod_lay_m108 x1 w64_2 w71_3 x4 x5 k1 k2 k3 w71_s = some z9 → ∀ (H : Heap) (locs : List Loc) (ls : Array Slot), va_P D classes (xw_M ad cI cZ w71_s) H → va_S A s.heap H locs → lv_has ls 9 [(0, .ref (ad 0)), (1, .int x1), (2, .int w64_2), (3, .int w71_3), (4, .int x4), (5, .int x5)] → W p l e (xk_rm 2 51) s m args below meth c H locs 0 0 Q (F0 m 108 ls [.int k3, .int k2, .int k1, .ref (ad 0)]) := by
                      intro x4 x5 k1 k2 k3 hB H locs ls hP hS hl
                      unfold F_Mod_lay_m108 at hB
                      obtain ⟨v4, h_v4, hB⟩ := xo_ob hB
                      refine xk_goI (xk_runV (As := [.int k1, .int k2, .int k3]) (rest := []) hx hb hml hown hts hK hE (fun _ h => h) hP hS ok_Mod_along in_Mod_along u_832 (c_Mod_along l D cI cZ ad A adK adV hDw k1 k2 k3 w71_s v4 h_v4) (va_recv hK hP (ci := 4) (q0 := 0) rfl xw_M_at_0) (by decide) rfl hl.1 rfl (Nat.le_of_ble_eq_true rfl) d_Mod_lay_108 ⟨Nat.le_refl _, Nat.le_refl _⟩) (fun _ h => h) hS (fun H locs hP hS => ?_)
                      refine lv_if_le (tgt := 123) hx hb d_Mod_lay_111 (by decide) (fun c_325 => ?_) (fun c_325 => ?_)
                      · replace hB := xo_if_t c_325 hB
                        obtain ⟨v5, e_v5, hB⟩ := xo_nm_e hB
                        refine lv_iinc (v := v5) (lv' := [(5, .int v5), (0, .ref (ad 0)), (1, .int x1), (2, .int w64_2), (3, .int w71_3), (4, .int x4)]) hx hb d_Mod_lay_123 hl (k := 5) rfl (by rw [e_v5]; rfl) (by decide) rfl (fun ls hl => ?_)
                        clear e_v5
                        refine lv_goto (tgt := 82) hx hb d_Mod_lay_126 (by decide) ?_
                        have q9 := Option.some.inj hB
                        subst q9
                        exact ih _ _ _ (xo_elL hL) kx0 _ _ _ hP hS (lv_sub hl [1, 2, 3, 4, 5, 0] rfl)
                      · replace hB := xo_if_f c_325 hB
                        refine lv_iload hx hb d_Mod_lay_114 (lv_at hl 4 rfl) ?_
                        refine lv_iconst (v := (1 : Int32)) hx hb d_Mod_lay_116 (by decide) ?_
                        refine lv_iload hx hb d_Mod_lay_117 (lv_at hl 5 rfl) ?_
                        refine lv_ishl hx hb d_Mod_lay_119 ?_
                        refine lv_ior hx hb d_Mod_lay_120 ?_
                        refine lv_topi (fun v6 e_v6 => ?_)
                        replace hB := xo_nm_u hB e_v6
                        clear e_v6
                        refine lv_istore (lv' := [(4, .int v6), (0, .ref (ad 0)), (1, .int x1), (2, .int w64_2), (3, .int w71_3), (5, .int x5)]) hx hb d_Mod_lay_121 hl (by decide) rfl (fun ls hl => ?_)
                        obtain ⟨v7, e_v7, hB⟩ := xo_nm_e hB
                        refine lv_iinc (v := v7) (lv' := [(5, .int v7), (4, .int v6), (0, .ref (ad 0)), (1, .int x1), (2, .int w64_2), (3, .int w71_3)]) hx hb d_Mod_lay_123 hl (k := 5) rfl (by rw [e_v7]; rfl) (by decide) rfl (fun ls hl => ?_)
                        clear e_v7
                        refine lv_goto (tgt := 82) hx hb d_Mod_lay_126 (by decide) ?_
                        have q9 := Option.some.inj hB
                        subst q9
                        exact ih _ _ _ (xo_elL hL) kx0 _ _ _ hP hS (lv_sub hl [2, 3, 4, 5, 1, 0] rfl)
                    refine lv_iload hx hb d_Mod_lay_82 (lv_at hl 5 rfl) ?_
                    refine lv_iload_n hx hb d_Mod_lay_84 rfl (lv_at hl 1 rfl) ?_
                    refine lv_icmp_ge (tgt := 129) hx hb d_Mod_lay_85 (by decide) (fun c_326 => ?_) (fun c_326 => ?_)
                    · replace hB := xo_if_t c_326 hB
                      have q9 := Option.some.inj hB
                      subst q9
                      replace hL := Option.some.inj (xo_elR hL)
                      subst hL
                      exact kx0 _ rfl _ _ _ hP hS (lv_sub hl [0, 1, 2, 3, 4] rfl)
                    · replace hB := xo_if_f c_326 hB
                      refine lv_iload hx hb d_Mod_lay_88 (lv_at hl 5 rfl) ?_
                      refine lv_iload_n hx hb d_Mod_lay_90 rfl (lv_at hl 2 rfl) ?_
                      refine lv_icmp_eq (tgt := 123) hx hb d_Mod_lay_91 (by decide) (fun c_327 => ?_) (fun c_327 => ?_)
                      · replace hB := xo_if_t c_327 hB
                        obtain ⟨v8, e_v8, hB⟩ := xo_nm_e hB
                        refine lv_iinc (v := v8) (lv' := [(5, .int v8), (0, .ref (ad 0)), (1, .int x1), (2, .int w64_2), (3, .int w71_3), (4, .int w82_4)]) hx hb d_Mod_lay_123 hl (k := 5) rfl (by rw [e_v8]; rfl) (by decide) rfl (fun ls hl => ?_)
                        clear e_v8
                        refine lv_goto (tgt := 82) hx hb d_Mod_lay_126 (by decide) ?_
                        have q9 := Option.some.inj hB
                        subst q9
                        exact ih _ _ _ (xo_elL hL) kx0 _ _ _ hP hS (lv_sub hl [1, 2, 3, 4, 5, 0] rfl)
                      · replace hB := xo_if_f c_327 hB
                        refine lv_aload_n hx hb d_Mod_lay_94 rfl (lv_at hl 0 rfl) ?_
                        refine lv_iload hx hb d_Mod_lay_95 (lv_at hl 5 rfl) ?_
                        refine lv_iload_n hx hb d_Mod_lay_97 rfl (lv_at hl 2 rfl) ?_
                        refine lv_iload_n hx hb d_Mod_lay_98 rfl (lv_at hl 3 rfl) ?_
                        refine lv_iconst (v := (1 : Int32)) hx hb d_Mod_lay_99 (by decide) ?_
                        refine lv_icmp_ne (tgt := 107) hx hb d_Mod_lay_100 (by decide) (fun c_328 => ?_) (fun c_328 => ?_)
                        · replace hB := xo_if_f c_328 hB
                          refine lv_iconst (v := (0 : Int32)) hx hb d_Mod_lay_107 (by decide) ?_
                          exact mg108 _ _ _ _ _ hB _ _ _ hP hS (lv_sub hl [0, 1, 2, 3, 4, 5] rfl)
                        · replace hB := xo_if_t c_328 hB
                          refine lv_iconst (v := (1 : Int32)) hx hb d_Mod_lay_103 (by decide) ?_
                          refine lv_goto (tgt := 108) hx hb d_Mod_lay_104 (by decide) ?_
                          exact mg108 _ _ _ _ _ hB _ _ _ hP hS (lv_sub hl [0, 1, 2, 3, 4, 5] rfl)
                obtain ⟨y82, hL82, hB⟩ := xo_ob hB
                refine lp82 1000000 (0 : Int32) (0 : Int32) y82 hL82 ?_ _ _ _ hP hS (lv_sub hl [2, 3, 4, 5, 1, 0] rfl)
                intro o3 ey H locs ls hP hS hl
                subst ey
                refine lv_iconst (v := (0 : Int32)) hx hb d_Mod_lay_129 (by decide) ?_
                refine lv_istore (lv' := [(5, .int (0 : Int32)), (0, .ref (ad 0)), (1, .int x1), (2, .int w64_2), (3, .int w71_3), (4, .int o3)]) hx hb d_Mod_lay_130 hl (by decide) rfl (fun ls hl => ?_)
                have lp132 : ∀ (n : Nat) (w132_5 : Int32) (w132_s : XS) (y : XS), xo_lp (fun q : (Int32 × XS) => F_Mod_lay_b132 x1 w64_2 w71_3 o3 q.1 q.2) n (w132_5, w132_s) = some y → (∀  (es : XS), es = y → ∀ (H : Heap) (locs : List Loc) (ls : Array Slot), va_P D classes (xw_M ad cI cZ es) H → va_S A s.heap H locs → lv_has ls 9 [(0, .ref (ad 0)), (1, .int x1), (2, .int w64_2), (3, .int w71_3)] → W p l e (xk_rm 2 51) s m args below meth c H locs 0 0 Q (F0 m 169 ls [])) → ∀ (H : Heap) (locs : List Loc) (ls : Array Slot), va_P D classes (xw_M ad cI cZ w132_s) H → va_S A s.heap H locs → lv_has ls 9 [(0, .ref (ad 0)), (1, .int x1), (2, .int w64_2), (3, .int w71_3), (4, .int o3), (5, .int w132_5)] → W p l e (xk_rm 2 51) s m args below meth c H locs 0 0 Q (F0 m 132 ls []) := by
                  intro n
                  induction n with
                  | zero =>
                    intro w132_5 w132_s y hL
                    exact nomatch (show (none : Option _) = some y from hL)
                  | succ n ih =>
                    intro w132_5 w132_s y hL kx0 H locs ls hP hS hl
                    obtain ⟨z9, hB, hL⟩ := xo_lp_s hL
                    replace hB : F_Mod_lay_b132 x1 w64_2 w71_3 o3 w132_5 w132_s = some z9 := hB
                    unfold F_Mod_lay_b132 at hB
                    refine lv_iload hx hb d_Mod_lay_132 (lv_at hl 5 rfl) ?_
                    refine lv_iconst (v := (2 : Int32)) hx hb d_Mod_lay_134 (by decide) ?_
                    refine lv_icmp_ge (tgt := 169) hx hb d_Mod_lay_135 (by decide) (fun c_329 => ?_) (fun c_329 => ?_)
                    · replace hB := xo_if_t c_329 hB
                      have q9 := Option.some.inj hB
                      subst q9
                      replace hL := Option.some.inj (xo_elR hL)
                      subst hL
                      exact kx0 _ rfl _ _ _ hP hS (lv_sub hl [0, 1, 2, 3] rfl)
                    · replace hB := xo_if_f c_329 hB
                      refine lv_iload hx hb d_Mod_lay_138 (lv_at hl 4 rfl) ?_
                      refine lv_iload hx hb d_Mod_lay_140 (lv_at hl 5 rfl) ?_
                      refine lv_iload_n hx hb d_Mod_lay_142 rfl (lv_at hl 2 rfl) ?_
                      refine lv_ishl hx hb d_Mod_lay_143 ?_
                      refine lv_ior hx hb d_Mod_lay_144 ?_
                      refine lv_topi (fun v10 e_v10 => ?_)
                      replace hB := xo_nm_u hB e_v10
                      clear e_v10
                      refine lv_istore (lv' := [(6, .int v10), (0, .ref (ad 0)), (1, .int x1), (2, .int w64_2), (3, .int w71_3), (4, .int o3), (5, .int w132_5)]) hx hb d_Mod_lay_145 hl (by decide) rfl (fun ls hl => ?_)
                      refine lv_aload_n hx hb d_Mod_lay_147 rfl (lv_at hl 1 rfl) ?_
                      refine xk_get (C := R_Mod) (T := F_Mod) (N := 23) hx hb hts i_Mod hown hK hP 0 xw_M_at_0 rfl 18 (by decide) u_684 rfl d_Mod_lay_148 ?_
                      refine lv_iload hx hb d_Mod_lay_151 (lv_at hl 0 rfl) ?_
                      refine lv_iconst (v := (1 : Int32)) hx hb d_Mod_lay_153 (by decide) ?_
                      obtain ⟨_, h_t11, hB⟩ := xo_ob hB
                      obtain ⟨t11, e_t11, hB⟩ := xo_nm_e hB
                      refine xk_iast hx hb hK hP (hDw _) hS 13 xw_M_at_18 h_t11 (xw_M_set_18 _) d_Mod_lay_154 (fun H locs hP hS => ?_)
                      replace hP : va_P D classes (xw_M ad cI cZ t11) H := by rw [e_t11]; exact hP
                      clear e_t11
                      refine lv_aload_n hx hb d_Mod_lay_155 rfl (lv_at hl 1 rfl) ?_
                      refine xk_get (C := R_Mod) (T := F_Mod) (N := 23) hx hb hts i_Mod hown hK hP 0 xw_M_at_0 rfl 19 (by decide) u_685 rfl d_Mod_lay_156 ?_
                      refine lv_iload hx hb d_Mod_lay_159 (lv_at hl 0 rfl) ?_
                      refine lv_iconst (v := (1 : Int32)) hx hb d_Mod_lay_161 (by decide) ?_
                      obtain ⟨_, h_t12, hB⟩ := xo_ob hB
                      obtain ⟨t12, e_t12, hB⟩ := xo_nm_e hB
                      refine xk_zast hx hb hK hP (hDw _) hS 14 xw_M_at_19 h_t12 (xw_M_set_19 _) d_Mod_lay_162 (fun H locs hP hS => ?_)
                      replace hP : va_P D classes (xw_M ad cI cZ t12) H := by rw [e_t12]; exact hP
                      clear e_t12
                      obtain ⟨v13, e_v13, hB⟩ := xo_nm_e hB
                      refine lv_iinc (v := v13) (lv' := [(5, .int v13), (6, .int v10), (0, .ref (ad 0)), (1, .int x1), (2, .int w64_2), (3, .int w71_3), (4, .int o3)]) hx hb d_Mod_lay_163 hl (k := 6) rfl (by rw [e_v13]; rfl) (by decide) rfl (fun ls hl => ?_)
                      clear e_v13
                      refine lv_goto (tgt := 132) hx hb d_Mod_lay_166 (by decide) ?_
                      have q9 := Option.some.inj hB
                      subst q9
                      exact ih _ _ _ (xo_elL hL) kx0 _ _ _ hP hS (lv_sub hl [2, 3, 4, 5, 6, 0] rfl)
                obtain ⟨y132, hL132, hB⟩ := xo_ob hB
                refine lp132 1000000 (0 : Int32) w71_s y132 hL132 ?_ _ _ _ hP hS (lv_sub hl [1, 2, 3, 4, 5, 0] rfl)
                intro t9 ey H locs ls hP hS hl
                subst ey
                obtain ⟨v14, e_v14, hB⟩ := xo_nm_e hB
                refine lv_iinc (v := v14) (lv' := [(3, .int v14), (0, .ref (ad 0)), (1, .int x1), (2, .int w64_2)]) hx hb d_Mod_lay_169 hl (k := 3) rfl (by rw [e_v14]; rfl) (by decide) rfl (fun ls hl => ?_)
                clear e_v14
                refine lv_goto (tgt := 71) hx hb d_Mod_lay_172 (by decide) ?_
                have q9 := Option.some.inj hB
                subst q9
                exact ih _ _ _ (xo_elL hL) kx0 _ _ _ hP hS (lv_sub hl [1, 2, 3, 0] rfl)
          obtain ⟨y71, hL71, hB⟩ := xo_ob hB
          refine lp71 1000000 (0 : Int32) w64_s y71 hL71 ?_ _ _ _ hP hS (lv_sub hl [1, 2, 3, 0] rfl)
          intro t2 ey H locs ls hP hS hl
          subst ey
          obtain ⟨v15, e_v15, hB⟩ := xo_nm_e hB
          refine lv_iinc (v := v15) (lv' := [(2, .int v15), (0, .ref (ad 0)), (1, .int x1)]) hx hb d_Mod_lay_175 hl (k := 2) rfl (by rw [e_v15]; rfl) (by decide) rfl (fun ls hl => ?_)
          clear e_v15
          refine lv_goto (tgt := 64) hx hb d_Mod_lay_178 (by decide) ?_
          have q9 := Option.some.inj hB
          subst q9
          exact ih _ _ _ (xo_elL hL) kx0 _ _ _ hP hS (lv_sub hl [1, 2, 0] rfl)
    obtain ⟨y64, hL64, hF⟩ := xo_ob hF
    refine lp64 1000000 (0 : Int32) xs y64 hL64 ?_ _ _ _ hP hS (lv_sub hl [1, 2, 0] rfl)
    intro t1 ey H locs ls hP hS hl
    subst ey
    refine lv_iconst (v := (0 : Int32)) hx hb d_Mod_lay_181 (by decide) ?_
    refine lv_istore_n (lv' := [(2, .int (0 : Int32)), (0, .ref (ad 0)), (1, .int x1)]) hx hb d_Mod_lay_182 rfl hl (by decide) rfl (fun ls hl => ?_)
    have lp183 : ∀ (n : Nat) (w183_2 : Int32) (w183_s : XS) (y : XS), xo_lp (fun q : (Int32 × XS) => F_Mod_lay_b183 x1 q.1 q.2) n (w183_2, w183_s) = some y → (∀  (es : XS), es = y → ∀ (H : Heap) (locs : List Loc) (ls : Array Slot), va_P D classes (xw_M ad cI cZ es) H → va_S A s.heap H locs → lv_has ls 9 [] → W p l e (xk_rm 2 51) s m args below meth c H locs 0 0 Q (F0 m 393 ls [])) → ∀ (H : Heap) (locs : List Loc) (ls : Array Slot), va_P D classes (xw_M ad cI cZ w183_s) H → va_S A s.heap H locs → lv_has ls 9 [(0, .ref (ad 0)), (1, .int x1), (2, .int w183_2)] → W p l e (xk_rm 2 51) s m args below meth c H locs 0 0 Q (F0 m 183 ls []) := by
      intro n
      induction n with
      | zero =>
        intro w183_2 w183_s y hL
        exact nomatch (show (none : Option _) = some y from hL)
      | succ n ih =>
        intro w183_2 w183_s y hL kx0 H locs ls hP hS hl
        obtain ⟨z9, hB, hL⟩ := xo_lp_s hL
        replace hB : F_Mod_lay_b183 x1 w183_2 w183_s = some z9 := hB
        unfold F_Mod_lay_b183 at hB
        refine lv_iload_n hx hb d_Mod_lay_183 rfl (lv_at hl 2 rfl) ?_
        refine lv_iload_n hx hb d_Mod_lay_184 rfl (lv_at hl 1 rfl) ?_
        refine lv_icmp_ge (tgt := 393) hx hb d_Mod_lay_185 (by decide) (fun c_330 => ?_) (fun c_330 => ?_)
        · replace hB := xo_if_t c_330 hB
          have q9 := Option.some.inj hB
          subst q9
          replace hL := Option.some.inj (xo_elR hL)
          subst hL
          exact kx0 _ rfl _ _ _ hP hS (lv_sub hl [] rfl)
        · replace hB := xo_if_f c_330 hB
          refine lv_iconst (v := (0 : Int32)) hx hb d_Mod_lay_188 (by decide) ?_
          refine lv_istore_n (lv' := [(3, .int (0 : Int32)), (0, .ref (ad 0)), (1, .int x1), (2, .int w183_2)]) hx hb d_Mod_lay_189 rfl hl (by decide) rfl (fun ls hl => ?_)
          have lp190 : ∀ (n : Nat) (w190_3 : Int32) (w190_s : XS) (y : XS), xo_lp (fun q : (Int32 × XS) => F_Mod_lay_b190 x1 w183_2 q.1 q.2) n (w190_3, w190_s) = some y → (∀  (es : XS), es = y → ∀ (H : Heap) (locs : List Loc) (ls : Array Slot), va_P D classes (xw_M ad cI cZ es) H → va_S A s.heap H locs → lv_has ls 9 [(0, .ref (ad 0)), (1, .int x1), (2, .int w183_2)] → W p l e (xk_rm 2 51) s m args below meth c H locs 0 0 Q (F0 m 387 ls [])) → ∀ (H : Heap) (locs : List Loc) (ls : Array Slot), va_P D classes (xw_M ad cI cZ w190_s) H → va_S A s.heap H locs → lv_has ls 9 [(0, .ref (ad 0)), (1, .int x1), (2, .int w183_2), (3, .int w190_3)] → W p l e (xk_rm 2 51) s m args below meth c H locs 0 0 Q (F0 m 190 ls []) := by
            intro n
            induction n with
            | zero =>
              intro w190_3 w190_s y hL
              exact nomatch (show (none : Option _) = some y from hL)
            | succ n ih =>
              intro w190_3 w190_s y hL kx0 H locs ls hP hS hl
              obtain ⟨z9, hB, hL⟩ := xo_lp_s hL
              replace hB : F_Mod_lay_b190 x1 w183_2 w190_3 w190_s = some z9 := hB
              unfold F_Mod_lay_b190 at hB
              have mg299 : ∀ (x3 : Int32) (x4 : Int32) (x5 : Int32) (x6 : Int32) (xs : XS), F_Mod_lay_m299 x1 w183_2 x3 x4 x5 x6 xs = some z9 → ∀ (H : Heap) (locs : List Loc) (ls : Array Slot), va_P D classes (xw_M ad cI cZ xs) H → va_S A s.heap H locs → lv_has ls 9 [(0, .ref (ad 0)), (1, .int x1), (2, .int w183_2), (3, .int x3), (4, .int x4), (5, .int x5), (6, .int x6)] → W p l e (xk_rm 2 51) s m args below meth c H locs 0 0 Q (F0 m 299 ls []) := by
                intro x3 x4 x5 x6 xs hB H locs ls hP hS hl
                unfold F_Mod_lay_m299 at hB
                refine lv_aload_n hx hb d_Mod_lay_299 rfl (lv_at hl 0 rfl) ?_
                refine lv_aload_n hx hb d_Mod_lay_300 rfl (lv_at hl 0 rfl) ?_
                refine xk_get (C := R_Mod) (T := F_Mod) (N := 23) hx hb hts i_Mod hown hK hP 0 xw_M_at_0 rfl 22 (by decide) u_688 rfl d_Mod_lay_301 ?_
                refine lv_iload hx hb d_Mod_lay_304 (lv_at hl 6 rfl) ?_
                refine va_mmax hx hb (by rw [hml]; exact hl.1.symm) hown (hts _ u_ms837_max) (hts _ u_st_max) (hts _ u_in_Math) (hts _ u_co_max) (by decide) (Nat.le_of_ble_eq_true rfl) (Nat.le_refl _) (Nat.le_refl _) d_Mod_lay_306 ?_
                obtain ⟨t18, e_t18, hB⟩ := xo_nm_e hB
                refine xk_put (C := R_Mod) (T := F_Mod) (N := 23) (ty := .int) hx hb hts i_Mod t_Mod t_Mod_ok n_Mod hown hK hP (hDw _) hS 0 xw_M_at_0 rfl 22 (by decide) u_688 rfl (by decide +kernel) rfl rfl (Nat.le_of_ble_eq_true rfl) (xw_M_put_0_22 _) d_Mod_lay_309 (fun H locs hP hS => ?_)
                replace hP : va_P D classes (xw_M ad cI cZ t18) H := by rw [e_t18]; exact hP
                clear e_t18
                refine lv_iconst (v := (0 : Int32)) hx hb d_Mod_lay_312 (by decide) ?_
                refine lv_istore (lv' := [(7, .int (0 : Int32)), (0, .ref (ad 0)), (1, .int x1), (2, .int w183_2), (3, .int x3), (4, .int x4), (5, .int x5), (6, .int x6)]) hx hb d_Mod_lay_313 hl (by decide) rfl (fun ls hl => ?_)
                have lp315 : ∀ (n : Nat) (w315_7 : Int32) (w315_s : XS) (y : XS), xo_lp (fun q : (Int32 × XS) => F_Mod_lay_b315 x1 w183_2 x3 x4 x5 q.1 q.2) n (w315_7, w315_s) = some y → (∀  (es : XS), es = y → ∀ (H : Heap) (locs : List Loc) (ls : Array Slot), va_P D classes (xw_M ad cI cZ es) H → va_S A s.heap H locs → lv_has ls 9 [(0, .ref (ad 0)), (1, .int x1), (2, .int w183_2), (3, .int x3)] → W p l e (xk_rm 2 51) s m args below meth c H locs 0 0 Q (F0 m 381 ls [])) → ∀ (H : Heap) (locs : List Loc) (ls : Array Slot), va_P D classes (xw_M ad cI cZ w315_s) H → va_S A s.heap H locs → lv_has ls 9 [(0, .ref (ad 0)), (1, .int x1), (2, .int w183_2), (3, .int x3), (4, .int x4), (5, .int x5), (7, .int w315_7)] → W p l e (xk_rm 2 51) s m args below meth c H locs 0 0 Q (F0 m 315 ls []) := by
                  intro n
                  induction n with
                  | zero =>
                    intro w315_7 w315_s y hL
                    exact nomatch (show (none : Option _) = some y from hL)
                  | succ n ih =>
                    intro w315_7 w315_s y hL kx0 H locs ls hP hS hl
                    obtain ⟨z9, hB, hL⟩ := xo_lp_s hL
                    replace hB : F_Mod_lay_b315 x1 w183_2 x3 x4 x5 w315_7 w315_s = some z9 := hB
                    unfold F_Mod_lay_b315 at hB
                    refine lv_iload hx hb d_Mod_lay_315 (lv_at hl 6 rfl) ?_
                    refine lv_sipush (v := (128 : Int32)) hx hb d_Mod_lay_317 (by decide) ?_
                    refine lv_icmp_ge (tgt := 381) hx hb d_Mod_lay_320 (by decide) (fun c_331 => ?_) (fun c_331 => ?_)
                    · replace hB := xo_if_t c_331 hB
                      have q9 := Option.some.inj hB
                      subst q9
                      replace hL := Option.some.inj (xo_elR hL)
                      subst hL
                      exact kx0 _ rfl _ _ _ hP hS (lv_sub hl [0, 1, 2, 3] rfl)
                    · replace hB := xo_if_f c_331 hB
                      refine lv_iload hx hb d_Mod_lay_323 (lv_at hl 6 rfl) ?_
                      refine lv_iload hx hb d_Mod_lay_325 (lv_at hl 4 rfl) ?_
                      refine lv_iconst (v := (-1 : Int32)) hx hb d_Mod_lay_327 (by decide) ?_
                      refine lv_ixor hx hb d_Mod_lay_328 ?_
                      refine lv_iand hx hb d_Mod_lay_329 ?_
                      refine lv_if_ne (tgt := 375) hx hb d_Mod_lay_330 (by decide) (fun c_332 => ?_) (fun c_332 => ?_)
                      · replace hB := xo_if_f c_332 hB
                        obtain ⟨v26, e_v26, hB⟩ := xo_nm_e hB
                        refine lv_iinc (v := v26) (lv' := [(7, .int v26), (0, .ref (ad 0)), (1, .int x1), (2, .int w183_2), (3, .int x3), (4, .int x4), (5, .int x5)]) hx hb d_Mod_lay_375 hl (k := 6) rfl (by rw [e_v26]; rfl) (by decide) rfl (fun ls hl => ?_)
                        clear e_v26
                        refine lv_goto (tgt := 315) hx hb d_Mod_lay_378 (by decide) ?_
                        have q9 := Option.some.inj hB
                        subst q9
                        exact ih _ _ _ (xo_elL hL) kx0 _ _ _ hP hS (lv_sub hl [1, 2, 3, 4, 5, 6, 0] rfl)
                      · replace hB := xo_if_t c_332 hB
                        refine lv_aload_n hx hb d_Mod_lay_333 rfl (lv_at hl 0 rfl) ?_
                        refine lv_iload hx hb d_Mod_lay_334 (lv_at hl 4 rfl) ?_
                        refine lv_iload hx hb d_Mod_lay_336 (lv_at hl 6 rfl) ?_
                        refine lv_iload_n hx hb d_Mod_lay_338 rfl (lv_at hl 1 rfl) ?_
                        obtain ⟨v20, h_v20, hB⟩ := xo_ob hB
                        refine xk_goI (xk_runV (As := [.int x4, .int w315_7, .int x1]) (rest := []) hx hb hml hown hts hK hE (fun _ h => h) hP hS ok_Mod_isAbout in_Mod_isAbout u_838 (c_Mod_isAbout l D cI cZ ad A adK adV hDw x4 w315_7 x1 w315_s v20 h_v20) (va_recv hK hP (ci := 4) (q0 := 0) rfl xw_M_at_0) (by decide) rfl hl.1 rfl (Nat.le_of_ble_eq_true rfl) d_Mod_lay_339 ⟨Nat.le_refl _, Nat.le_refl _⟩) (fun _ h => h) hS (fun H locs hP hS => ?_)
                        refine lv_if_ne (tgt := 348) hx hb d_Mod_lay_342 (by decide) (fun c_333 => ?_) (fun c_333 => ?_)
                        · replace hB := xo_if_f c_333 hB
                          refine lv_iload hx hb d_Mod_lay_348 (lv_at hl 5 rfl) ?_
                          refine lv_iload hx hb d_Mod_lay_350 (lv_at hl 6 rfl) ?_
                          refine lv_ior hx hb d_Mod_lay_352 ?_
                          refine lv_topi (fun v22 e_v22 => ?_)
                          replace hB := xo_nm_u hB e_v22
                          clear e_v22
                          refine lv_istore (lv' := [(8, .int v22), (0, .ref (ad 0)), (1, .int x1), (2, .int w183_2), (3, .int x3), (4, .int x4), (5, .int x5), (7, .int w315_7)]) hx hb d_Mod_lay_353 hl (by decide) rfl (fun ls hl => ?_)
                          refine lv_aload_n hx hb d_Mod_lay_355 rfl (lv_at hl 1 rfl) ?_
                          refine xk_get (C := R_Mod) (T := F_Mod) (N := 23) hx hb hts i_Mod hown hK hP 0 xw_M_at_0 rfl 18 (by decide) u_684 rfl d_Mod_lay_356 ?_
                          refine lv_iload hx hb d_Mod_lay_359 (lv_at hl 0 rfl) ?_
                          refine lv_iconst (v := (1 : Int32)) hx hb d_Mod_lay_361 (by decide) ?_
                          refine lv_aload_n hx hb d_Mod_lay_362 rfl (lv_at hl 1 rfl) ?_
                          refine xk_get (C := R_Mod) (T := F_Mod) (N := 23) hx hb hts i_Mod hown hK hP 0 xw_M_at_0 rfl 18 (by decide) u_684 rfl d_Mod_lay_363 ?_
                          refine lv_iload hx hb d_Mod_lay_366 (lv_at hl 0 rfl) ?_
                          obtain ⟨v23, h_v23, hB⟩ := xo_ob hB
                          refine xk_iald hx hb hK hP 13 xw_M_at_18 h_v23 d_Mod_lay_368 ?_
                          refine va_mmax hx hb (by rw [hml]; exact hl.1.symm) hown (hts _ u_ms837_max) (hts _ u_st_max) (hts _ u_in_Math) (hts _ u_co_max) (by decide) (Nat.le_of_ble_eq_true rfl) (Nat.le_refl _) (Nat.le_refl _) d_Mod_lay_369 ?_
                          refine lv_iconst (v := (1 : Int32)) hx hb d_Mod_lay_372 (by decide) ?_
                          refine lv_iadd hx hb d_Mod_lay_373 ?_
                          obtain ⟨_, h_t24, hB⟩ := xo_ob hB
                          obtain ⟨t24, e_t24, hB⟩ := xo_nm_e hB
                          refine xk_iast hx hb hK hP (hDw _) hS 13 xw_M_at_18 h_t24 (xw_M_set_18 _) d_Mod_lay_374 (fun H locs hP hS => ?_)
                          replace hP : va_P D classes (xw_M ad cI cZ t24) H := by rw [e_t24]; exact hP
                          clear e_t24
                          obtain ⟨v25, e_v25, hB⟩ := xo_nm_e hB
                          refine lv_iinc (v := v25) (lv' := [(7, .int v25), (8, .int v22), (0, .ref (ad 0)), (1, .int x1), (2, .int w183_2), (3, .int x3), (4, .int x4), (5, .int x5)]) hx hb d_Mod_lay_375 hl (k := 7) rfl (by rw [e_v25]; rfl) (by decide) rfl (fun ls hl => ?_)
                          clear e_v25
                          refine lv_goto (tgt := 315) hx hb d_Mod_lay_378 (by decide) ?_
                          have q9 := Option.some.inj hB
                          subst q9
                          exact ih _ _ _ (xo_elL hL) kx0 _ _ _ hP hS (lv_sub hl [2, 3, 4, 5, 6, 7, 0] rfl)
                        · replace hB := xo_if_t c_333 hB
                          refine lv_goto (tgt := 375) hx hb d_Mod_lay_345 (by decide) ?_
                          obtain ⟨v21, e_v21, hB⟩ := xo_nm_e hB
                          refine lv_iinc (v := v21) (lv' := [(7, .int v21), (0, .ref (ad 0)), (1, .int x1), (2, .int w183_2), (3, .int x3), (4, .int x4), (5, .int x5)]) hx hb d_Mod_lay_375 hl (k := 6) rfl (by rw [e_v21]; rfl) (by decide) rfl (fun ls hl => ?_)
                          clear e_v21
                          refine lv_goto (tgt := 315) hx hb d_Mod_lay_378 (by decide) ?_
                          have q9 := Option.some.inj hB
                          subst q9
                          exact ih _ _ _ (xo_elL hL) kx0 _ _ _ hP hS (lv_sub hl [1, 2, 3, 4, 5, 6, 0] rfl)
                obtain ⟨y315, hL315, hB⟩ := xo_ob hB
                refine lp315 1000000 (0 : Int32) t18 y315 hL315 ?_ _ _ _ hP hS (lv_sub hl [1, 2, 3, 4, 5, 6, 0] rfl)
                intro t19 ey H locs ls hP hS hl
                subst ey
                obtain ⟨v27, e_v27, hB⟩ := xo_nm_e hB
                refine lv_iinc (v := v27) (lv' := [(3, .int v27), (0, .ref (ad 0)), (1, .int x1), (2, .int w183_2)]) hx hb d_Mod_lay_381 hl (k := 3) rfl (by rw [e_v27]; rfl) (by decide) rfl (fun ls hl => ?_)
                clear e_v27
                refine lv_goto (tgt := 190) hx hb d_Mod_lay_384 (by decide) ?_
                have q9 := Option.some.inj hB
                subst q9
                exact ih _ _ _ (xo_elL hL) kx0 _ _ _ hP hS (lv_sub hl [1, 2, 3, 0] rfl)
              refine lv_iload_n hx hb d_Mod_lay_190 rfl (lv_at hl 3 rfl) ?_
              refine lv_iload_n hx hb d_Mod_lay_191 rfl (lv_at hl 2 rfl) ?_
              refine lv_icmp_ge (tgt := 387) hx hb d_Mod_lay_192 (by decide) (fun c_334 => ?_) (fun c_334 => ?_)
              · replace hB := xo_if_t c_334 hB
                have q9 := Option.some.inj hB
                subst q9
                replace hL := Option.some.inj (xo_elR hL)
                subst hL
                exact kx0 _ rfl _ _ _ hP hS (lv_sub hl [0, 1, 2] rfl)
              · replace hB := xo_if_f c_334 hB
                refine lv_aload_n hx hb d_Mod_lay_195 rfl (lv_at hl 0 rfl) ?_
                refine lv_iload_n hx hb d_Mod_lay_196 rfl (lv_at hl 3 rfl) ?_
                refine lv_iload_n hx hb d_Mod_lay_197 rfl (lv_at hl 2 rfl) ?_
                obtain ⟨v28, h_v28, hB⟩ := xo_ob hB
                refine xk_goI (xk_runV (As := [.int w190_3, .int w183_2]) (rest := []) hx hb hml hown hts hK hE (fun _ h => h) hP hS ok_Mod_isFirst in_Mod_isFirst u_803 (c_Mod_isFirst l D cI cZ ad A adK adV hDw w190_3 w183_2 w190_s v28 h_v28) (va_recv hK hP (ci := 4) (q0 := 0) rfl xw_M_at_0) (by decide) rfl hl.1 rfl (Nat.le_of_ble_eq_true rfl) d_Mod_lay_198 ⟨Nat.le_refl _, Nat.le_refl _⟩) (fun _ h => h) hS (fun H locs hP hS => ?_)
                refine lv_if_ne (tgt := 207) hx hb d_Mod_lay_201 (by decide) (fun c_335 => ?_) (fun c_335 => ?_)
                · replace hB := xo_if_f c_335 hB
                  refine lv_aload_n hx hb d_Mod_lay_207 rfl (lv_at hl 0 rfl) ?_
                  refine lv_dup hx hb d_Mod_lay_208 rfl ?_
                  refine xk_get (C := R_Mod) (T := F_Mod) (N := 23) hx hb hts i_Mod hown hK hP 0 xw_M_at_0 rfl 20 (by decide) u_686 rfl d_Mod_lay_209 ?_
                  refine lv_iconst (v := (1 : Int32)) hx hb d_Mod_lay_212 (by decide) ?_
                  refine lv_iadd hx hb d_Mod_lay_213 ?_
                  obtain ⟨t30, e_t30, hB⟩ := xo_nm_e hB
                  refine xk_put (C := R_Mod) (T := F_Mod) (N := 23) (ty := .int) hx hb hts i_Mod t_Mod t_Mod_ok n_Mod hown hK hP (hDw _) hS 0 xw_M_at_0 rfl 20 (by decide) u_686 rfl (by decide +kernel) rfl rfl (Nat.le_of_ble_eq_true rfl) (xw_M_put_0_20 _) d_Mod_lay_214 (fun H locs hP hS => ?_)
                  replace hP : va_P D classes (xw_M ad cI cZ t30) H := by rw [e_t30]; exact hP
                  clear e_t30
                  refine lv_iconst (v := (0 : Int32)) hx hb d_Mod_lay_217 (by decide) ?_
                  refine lv_istore (lv' := [(4, .int (0 : Int32)), (0, .ref (ad 0)), (1, .int x1), (2, .int w183_2), (3, .int w190_3)]) hx hb d_Mod_lay_218 hl (by decide) rfl (fun ls hl => ?_)
                  refine lv_iconst (v := (0 : Int32)) hx hb d_Mod_lay_220 (by decide) ?_
                  refine lv_istore (lv' := [(5, .int (0 : Int32)), (4, .int (0 : Int32)), (0, .ref (ad 0)), (1, .int x1), (2, .int w183_2), (3, .int w190_3)]) hx hb d_Mod_lay_221 hl (by decide) rfl (fun ls hl => ?_)
                  refine lv_iconst (v := (0 : Int32)) hx hb d_Mod_lay_223 (by decide) ?_
                  refine lv_istore (lv' := [(6, .int (0 : Int32)), (5, .int (0 : Int32)), (4, .int (0 : Int32)), (0, .ref (ad 0)), (1, .int x1), (2, .int w183_2), (3, .int w190_3)]) hx hb d_Mod_lay_224 hl (by decide) rfl (fun ls hl => ?_)
                  have lp226 : ∀ (n : Nat) (w226_4 : Int32) (w226_5 : Int32) (w226_6 : Int32) (y : (Int32 × Int32)), xo_lp (fun q : (Int32 × Int32 × Int32) => F_Mod_lay_b226 x1 w183_2 w190_3 t30 q.1 q.2.1 q.2.2) n (w226_4, w226_5, w226_6) = some y → (∀ (e4 : Int32) (e5 : Int32), (e4, e5) = y → ∀ (H : Heap) (locs : List Loc) (ls : Array Slot), va_P D classes (xw_M ad cI cZ t30) H → va_S A s.heap H locs → lv_has ls 9 [(0, .ref (ad 0)), (1, .int x1), (2, .int w183_2), (3, .int w190_3), (4, .int e4), (5, .int e5)] → W p l e (xk_rm 2 51) s m args below meth c H locs 0 0 Q (F0 m 276 ls [])) → ∀ (H : Heap) (locs : List Loc) (ls : Array Slot), va_P D classes (xw_M ad cI cZ t30) H → va_S A s.heap H locs → lv_has ls 9 [(0, .ref (ad 0)), (1, .int x1), (2, .int w183_2), (3, .int w190_3), (4, .int w226_4), (5, .int w226_5), (6, .int w226_6)] → W p l e (xk_rm 2 51) s m args below meth c H locs 0 0 Q (F0 m 226 ls []) := by
                    intro n
                    induction n with
                    | zero =>
                      intro w226_4 w226_5 w226_6 y hL
                      exact nomatch (show (none : Option _) = some y from hL)
                    | succ n ih =>
                      intro w226_4 w226_5 w226_6 y hL kx0 H locs ls hP hS hl
                      obtain ⟨z9, hB, hL⟩ := xo_lp_s hL
                      replace hB : F_Mod_lay_b226 x1 w183_2 w190_3 t30 w226_4 w226_5 w226_6 = some z9 := hB
                      unfold F_Mod_lay_b226 at hB
                      have mg256 : ∀ (x4 : Int32) (x5 : Int32) (x6 : Int32) (x7 : Int32), F_Mod_lay_m256 x1 w183_2 w190_3 x4 x5 x6 x7 t30 = some z9 → ∀ (H : Heap) (locs : List Loc) (ls : Array Slot), va_P D classes (xw_M ad cI cZ t30) H → va_S A s.heap H locs → lv_has ls 9 [(0, .ref (ad 0)), (1, .int x1), (2, .int w183_2), (3, .int w190_3), (4, .int x4), (5, .int x5), (6, .int x6), (7, .int x7)] → W p l e (xk_rm 2 51) s m args below meth c H locs 0 0 Q (F0 m 256 ls []) := by
                        intro x4 x5 x6 x7 hB H locs ls hP hS hl
                        unfold F_Mod_lay_m256 at hB
                        refine lv_iload hx hb d_Mod_lay_256 (lv_at hl 7 rfl) ?_
                        refine lv_if_le (tgt := 270) hx hb d_Mod_lay_258 (by decide) (fun c_336 => ?_) (fun c_336 => ?_)
                        · replace hB := xo_if_t c_336 hB
                          obtain ⟨v33, e_v33, hB⟩ := xo_nm_e hB
                          refine lv_iinc (v := v33) (lv' := [(6, .int v33), (0, .ref (ad 0)), (1, .int x1), (2, .int w183_2), (3, .int w190_3), (4, .int x4), (5, .int x5), (7, .int x7)]) hx hb d_Mod_lay_270 hl (k := 6) rfl (by rw [e_v33]; rfl) (by decide) rfl (fun ls hl => ?_)
                          clear e_v33
                          refine lv_goto (tgt := 226) hx hb d_Mod_lay_273 (by decide) ?_
                          have q9 := Option.some.inj hB
                          subst q9
                          exact ih _ _ _ _ (xo_elL hL) kx0 _ _ _ hP hS (lv_sub hl [1, 2, 3, 4, 5, 6, 0] rfl)
                        · replace hB := xo_if_f c_336 hB
                          refine lv_iload hx hb d_Mod_lay_261 (lv_at hl 5 rfl) ?_
                          refine lv_iconst (v := (1 : Int32)) hx hb d_Mod_lay_263 (by decide) ?_
                          refine lv_iload hx hb d_Mod_lay_264 (lv_at hl 6 rfl) ?_
                          refine lv_ishl hx hb d_Mod_lay_266 ?_
                          refine lv_ior hx hb d_Mod_lay_267 ?_
                          refine lv_topi (fun v34 e_v34 => ?_)
                          replace hB := xo_nm_u hB e_v34
                          clear e_v34
                          refine lv_istore (lv' := [(5, .int v34), (0, .ref (ad 0)), (1, .int x1), (2, .int w183_2), (3, .int w190_3), (4, .int x4), (6, .int x6), (7, .int x7)]) hx hb d_Mod_lay_268 hl (by decide) rfl (fun ls hl => ?_)
                          obtain ⟨v35, e_v35, hB⟩ := xo_nm_e hB
                          refine lv_iinc (v := v35) (lv' := [(6, .int v35), (5, .int v34), (0, .ref (ad 0)), (1, .int x1), (2, .int w183_2), (3, .int w190_3), (4, .int x4), (7, .int x7)]) hx hb d_Mod_lay_270 hl (k := 6) rfl (by rw [e_v35]; rfl) (by decide) rfl (fun ls hl => ?_)
                          clear e_v35
                          refine lv_goto (tgt := 226) hx hb d_Mod_lay_273 (by decide) ?_
                          have q9 := Option.some.inj hB
                          subst q9
                          exact ih _ _ _ _ (xo_elL hL) kx0 _ _ _ hP hS (lv_sub hl [2, 3, 4, 5, 6, 1, 0] rfl)
                      refine lv_iload hx hb d_Mod_lay_226 (lv_at hl 6 rfl) ?_
                      refine lv_iload_n hx hb d_Mod_lay_228 rfl (lv_at hl 1 rfl) ?_
                      refine lv_icmp_ge (tgt := 276) hx hb d_Mod_lay_229 (by decide) (fun c_337 => ?_) (fun c_337 => ?_)
                      · replace hB := xo_if_t c_337 hB
                        have q9 := Option.some.inj hB
                        subst q9
                        replace hL := Option.some.inj (xo_elR hL)
                        subst hL
                        exact kx0 _ _ rfl _ _ _ hP hS (lv_sub hl [0, 1, 2, 3, 4, 5] rfl)
                      · replace hB := xo_if_f c_337 hB
                        refine lv_aload_n hx hb d_Mod_lay_232 rfl (lv_at hl 0 rfl) ?_
                        refine lv_iload hx hb d_Mod_lay_233 (lv_at hl 6 rfl) ?_
                        refine lv_iload_n hx hb d_Mod_lay_235 rfl (lv_at hl 3 rfl) ?_
                        refine lv_iload_n hx hb d_Mod_lay_236 rfl (lv_at hl 2 rfl) ?_
                        obtain ⟨v36, h_v36, hB⟩ := xo_ob hB
                        refine xk_goI (xk_runV (As := [.int w226_6, .int w190_3, .int w183_2]) (rest := []) hx hb hml hown hts hK hE (fun _ h => h) hP hS ok_Mod_sideOfCrossing in_Mod_sideOfCrossing u_807 (c_Mod_sideOfCrossing l D cI cZ ad A adK adV hDw w226_6 w190_3 w183_2 t30 v36 h_v36) (va_recv hK hP (ci := 4) (q0 := 0) rfl xw_M_at_0) (by decide) rfl hl.1 rfl (Nat.le_of_ble_eq_true rfl) d_Mod_lay_237 ⟨Nat.le_refl _, Nat.le_refl _⟩) (fun _ h => h) hS (fun H locs hP hS => ?_)
                        refine lv_istore (lv' := [(7, .int v36), (0, .ref (ad 0)), (1, .int x1), (2, .int w183_2), (3, .int w190_3), (4, .int w226_4), (5, .int w226_5), (6, .int w226_6)]) hx hb d_Mod_lay_240 hl (by decide) rfl (fun ls hl => ?_)
                        refine lv_iload hx hb d_Mod_lay_242 (lv_at hl 0 rfl) ?_
                        refine lv_if_ne (tgt := 256) hx hb d_Mod_lay_244 (by decide) (fun c_338 => ?_) (fun c_338 => ?_)
                        · replace hB := xo_if_f c_338 hB
                          exact mg256 _ _ _ _ hB _ _ _ hP hS (lv_sub hl [1, 2, 3, 4, 5, 6, 7, 0] rfl)
                        · replace hB := xo_if_t c_338 hB
                          refine lv_iload hx hb d_Mod_lay_247 (lv_at hl 5 rfl) ?_
                          refine lv_iconst (v := (1 : Int32)) hx hb d_Mod_lay_249 (by decide) ?_
                          refine lv_iload hx hb d_Mod_lay_250 (lv_at hl 7 rfl) ?_
                          refine lv_ishl hx hb d_Mod_lay_252 ?_
                          refine lv_ior hx hb d_Mod_lay_253 ?_
                          refine lv_topi (fun v37 e_v37 => ?_)
                          replace hB := xo_nm_u hB e_v37
                          clear e_v37
                          refine lv_istore (lv' := [(4, .int v37), (7, .int v36), (0, .ref (ad 0)), (1, .int x1), (2, .int w183_2), (3, .int w190_3), (5, .int w226_5), (6, .int w226_6)]) hx hb d_Mod_lay_254 hl (by decide) rfl (fun ls hl => ?_)
                          exact mg256 _ _ _ _ hB _ _ _ hP hS (lv_sub hl [2, 3, 4, 5, 0, 6, 7, 1] rfl)
                  obtain ⟨y226, hL226, hB⟩ := xo_ob hB
                  refine lp226 1000000 (0 : Int32) (0 : Int32) (0 : Int32) y226 hL226 ?_ _ _ _ hP hS (lv_sub hl [3, 4, 5, 6, 2, 1, 0] rfl)
                  intro o31 o32 ey H locs ls hP hS hl
                  subst ey
                  replace hB := xo_u2e hB
                  refine lv_iload hx hb d_Mod_lay_276 (lv_at hl 4 rfl) ?_
                  obtain ⟨v38, h_v38, hB⟩ := xo_ob hB
                  refine xk_goI (xk_runS (As := [.int o31]) (rest := []) hx hb hml hown hts hK hE (fun _ h => h) hP hS ok_Int_bitCount st_Int_bitCount u_836 (c_Int_bitCount l D cI cZ (xw_M ad cI cZ) A adK adV o31 t30 v38 h_v38) (by decide) rfl hl.1 rfl (Nat.le_of_ble_eq_true rfl) d_Mod_lay_278 ⟨Nat.le_refl _, Nat.le_refl _⟩) (fun _ h => h) hS (fun H locs hP hS => ?_)
                  refine lv_istore (lv' := [(6, .int v38), (0, .ref (ad 0)), (1, .int x1), (2, .int w183_2), (3, .int w190_3), (4, .int o31), (5, .int o32)]) hx hb d_Mod_lay_281 hl (by decide) rfl (fun ls hl => ?_)
                  refine lv_iload hx hb d_Mod_lay_283 (lv_at hl 0 rfl) ?_
                  refine lv_iconst (v := (2 : Int32)) hx hb d_Mod_lay_285 (by decide) ?_
                  refine lv_icmp_le (tgt := 299) hx hb d_Mod_lay_286 (by decide) (fun c_339 => ?_) (fun c_339 => ?_)
                  · replace hB := xo_if_t c_339 hB
                    exact mg299 _ _ _ _ _ hB _ _ _ hP hS (lv_sub hl [1, 2, 3, 4, 5, 6, 0] rfl)
                  · replace hB := xo_if_f c_339 hB
                    refine lv_aload_n hx hb d_Mod_lay_289 rfl (lv_at hl 1 rfl) ?_
                    refine lv_dup hx hb d_Mod_lay_290 rfl ?_
                    refine xk_get (C := R_Mod) (T := F_Mod) (N := 23) hx hb hts i_Mod hown hK hP 0 xw_M_at_0 rfl 21 (by decide) u_687 rfl d_Mod_lay_291 ?_
                    refine lv_iconst (v := (1 : Int32)) hx hb d_Mod_lay_294 (by decide) ?_
                    refine lv_iadd hx hb d_Mod_lay_295 ?_
                    obtain ⟨t39, e_t39, hB⟩ := xo_nm_e hB
                    refine xk_put (C := R_Mod) (T := F_Mod) (N := 23) (ty := .int) hx hb hts i_Mod t_Mod t_Mod_ok n_Mod hown hK hP (hDw _) hS 0 xw_M_at_0 rfl 21 (by decide) u_687 rfl (by decide +kernel) rfl rfl (Nat.le_of_ble_eq_true rfl) (xw_M_put_0_21 _) d_Mod_lay_296 (fun H locs hP hS => ?_)
                    replace hP : va_P D classes (xw_M ad cI cZ t39) H := by rw [e_t39]; exact hP
                    clear e_t39
                    exact mg299 _ _ _ _ _ hB _ _ _ hP hS (lv_sub hl [1, 2, 3, 4, 5, 6, 0] rfl)
                · replace hB := xo_if_t c_335 hB
                  refine lv_goto (tgt := 381) hx hb d_Mod_lay_204 (by decide) ?_
                  obtain ⟨v29, e_v29, hB⟩ := xo_nm_e hB
                  refine lv_iinc (v := v29) (lv' := [(3, .int v29), (0, .ref (ad 0)), (1, .int x1), (2, .int w183_2)]) hx hb d_Mod_lay_381 hl (k := 3) rfl (by rw [e_v29]; rfl) (by decide) rfl (fun ls hl => ?_)
                  clear e_v29
                  refine lv_goto (tgt := 190) hx hb d_Mod_lay_384 (by decide) ?_
                  have q9 := Option.some.inj hB
                  subst q9
                  exact ih _ _ _ (xo_elL hL) kx0 _ _ _ hP hS (lv_sub hl [1, 2, 3, 0] rfl)
          obtain ⟨y190, hL190, hB⟩ := xo_ob hB
          refine lp190 1000000 (0 : Int32) w183_s y190 hL190 ?_ _ _ _ hP hS (lv_sub hl [1, 2, 3, 0] rfl)
          intro t17 ey H locs ls hP hS hl
          subst ey
          obtain ⟨v40, e_v40, hB⟩ := xo_nm_e hB
          refine lv_iinc (v := v40) (lv' := [(2, .int v40), (0, .ref (ad 0)), (1, .int x1)]) hx hb d_Mod_lay_387 hl (k := 2) rfl (by rw [e_v40]; rfl) (by decide) rfl (fun ls hl => ?_)
          clear e_v40
          refine lv_goto (tgt := 183) hx hb d_Mod_lay_390 (by decide) ?_
          have q9 := Option.some.inj hB
          subst q9
          exact ih _ _ _ (xo_elL hL) kx0 _ _ _ hP hS (lv_sub hl [1, 2, 0] rfl)
    obtain ⟨y183, hL183, hF⟩ := xo_ob hF
    refine lp183 1000000 (0 : Int32) t1 y183 hL183 ?_ _ _ _ hP hS (lv_sub hl [1, 2, 0] rfl)
    intro t16 ey H locs ls hP hS hl
    subst ey
    have q9 := Option.some.inj hF
    subst q9
    exact hret 393 _ _ _ d_Mod_lay_393 hP hS
  refine lv_aload_n hx hb d_Mod_lay_0 rfl (lv_at hl 0 rfl) ?_
  refine lv_iconst (v := (0 : Int32)) hx hb d_Mod_lay_1 (by decide) ?_
  obtain ⟨t41, e_t41, hF⟩ := xo_nm_e hF
  refine xk_put (C := R_Mod) (T := F_Mod) (N := 23) (ty := .int) hx hb hts i_Mod t_Mod t_Mod_ok n_Mod hown hK hP (hDw _) hS 0 xw_M_at_0 rfl 20 (by decide) u_686 rfl (by decide +kernel) rfl rfl (Nat.le_of_ble_eq_true rfl) (xw_M_put_0_20 _) d_Mod_lay_2 (fun H locs hP hS => ?_)
  replace hP : va_P D classes (xw_M ad cI cZ t41) H := by rw [e_t41]; exact hP
  clear e_t41
  refine lv_aload_n hx hb d_Mod_lay_5 rfl (lv_at hl 0 rfl) ?_
  refine lv_iconst (v := (0 : Int32)) hx hb d_Mod_lay_6 (by decide) ?_
  obtain ⟨t42, e_t42, hF⟩ := xo_nm_e hF
  refine xk_put (C := R_Mod) (T := F_Mod) (N := 23) (ty := .int) hx hb hts i_Mod t_Mod t_Mod_ok n_Mod hown hK hP (hDw _) hS 0 xw_M_at_0 rfl 21 (by decide) u_687 rfl (by decide +kernel) rfl rfl (Nat.le_of_ble_eq_true rfl) (xw_M_put_0_21 _) d_Mod_lay_7 (fun H locs hP hS => ?_)
  replace hP : va_P D classes (xw_M ad cI cZ t42) H := by rw [e_t42]; exact hP
  clear e_t42
  refine lv_aload_n hx hb d_Mod_lay_10 rfl (lv_at hl 0 rfl) ?_
  refine lv_iconst (v := (0 : Int32)) hx hb d_Mod_lay_11 (by decide) ?_
  obtain ⟨t43, e_t43, hF⟩ := xo_nm_e hF
  refine xk_put (C := R_Mod) (T := F_Mod) (N := 23) (ty := .int) hx hb hts i_Mod t_Mod t_Mod_ok n_Mod hown hK hP (hDw _) hS 0 xw_M_at_0 rfl 22 (by decide) u_688 rfl (by decide +kernel) rfl rfl (Nat.le_of_ble_eq_true rfl) (xw_M_put_0_22 _) d_Mod_lay_12 (fun H locs hP hS => ?_)
  replace hP : va_P D classes (xw_M ad cI cZ t43) H := by rw [e_t43]; exact hP
  clear e_t43
  refine lv_iconst (v := (0 : Int32)) hx hb d_Mod_lay_15 (by decide) ?_
  refine lv_istore_n (lv' := [(2, .int (0 : Int32)), (0, .ref (ad 0)), (1, .int x1)]) hx hb d_Mod_lay_16 rfl hl (by decide) rfl (fun ls hl => ?_)
  have lp17 : ∀ (n : Nat) (w17_2 : Int32) (w17_s : XS) (y : XS), xo_lp (fun q : (Int32 × XS) => F_Mod_lay_b17 x1 q.1 q.2) n (w17_2, w17_s) = some y → (∀  (es : XS), es = y → ∀ (H : Heap) (locs : List Loc) (ls : Array Slot), va_P D classes (xw_M ad cI cZ es) H → va_S A s.heap H locs → lv_has ls 9 [(0, .ref (ad 0)), (1, .int x1)] → W p l e (xk_rm 2 51) s m args below meth c H locs 0 0 Q (F0 m 44 ls [])) → ∀ (H : Heap) (locs : List Loc) (ls : Array Slot), va_P D classes (xw_M ad cI cZ w17_s) H → va_S A s.heap H locs → lv_has ls 9 [(0, .ref (ad 0)), (1, .int x1), (2, .int w17_2)] → W p l e (xk_rm 2 51) s m args below meth c H locs 0 0 Q (F0 m 17 ls []) := by
    intro n
    induction n with
    | zero =>
      intro w17_2 w17_s y hL
      exact nomatch (show (none : Option _) = some y from hL)
    | succ n ih =>
      intro w17_2 w17_s y hL kx0 H locs ls hP hS hl
      obtain ⟨z9, hB, hL⟩ := xo_lp_s hL
      replace hB : F_Mod_lay_b17 x1 w17_2 w17_s = some z9 := hB
      unfold F_Mod_lay_b17 at hB
      refine lv_iload_n hx hb d_Mod_lay_17 rfl (lv_at hl 2 rfl) ?_
      refine lv_sipush (v := (128 : Int32)) hx hb d_Mod_lay_18 (by decide) ?_
      refine lv_icmp_ge (tgt := 44) hx hb d_Mod_lay_21 (by decide) (fun c_340 => ?_) (fun c_340 => ?_)
      · replace hB := xo_if_t c_340 hB
        have q9 := Option.some.inj hB
        subst q9
        replace hL := Option.some.inj (xo_elR hL)
        subst hL
        exact kx0 _ rfl _ _ _ hP hS (lv_sub hl [0, 1] rfl)
      · replace hB := xo_if_f c_340 hB
        refine lv_aload_n hx hb d_Mod_lay_24 rfl (lv_at hl 0 rfl) ?_
        refine xk_get (C := R_Mod) (T := F_Mod) (N := 23) hx hb hts i_Mod hown hK hP 0 xw_M_at_0 rfl 18 (by decide) u_684 rfl d_Mod_lay_25 ?_
        refine lv_iload_n hx hb d_Mod_lay_28 rfl (lv_at hl 2 rfl) ?_
        refine lv_iconst (v := (0 : Int32)) hx hb d_Mod_lay_29 (by decide) ?_
        obtain ⟨_, h_t45, hB⟩ := xo_ob hB
        obtain ⟨t45, e_t45, hB⟩ := xo_nm_e hB
        refine xk_iast hx hb hK hP (hDw _) hS 13 xw_M_at_18 h_t45 (xw_M_set_18 _) d_Mod_lay_30 (fun H locs hP hS => ?_)
        replace hP : va_P D classes (xw_M ad cI cZ t45) H := by rw [e_t45]; exact hP
        clear e_t45
        refine lv_aload_n hx hb d_Mod_lay_31 rfl (lv_at hl 0 rfl) ?_
        refine xk_get (C := R_Mod) (T := F_Mod) (N := 23) hx hb hts i_Mod hown hK hP 0 xw_M_at_0 rfl 19 (by decide) u_685 rfl d_Mod_lay_32 ?_
        refine lv_iload_n hx hb d_Mod_lay_35 rfl (lv_at hl 2 rfl) ?_
        refine lv_iconst (v := (0 : Int32)) hx hb d_Mod_lay_36 (by decide) ?_
        obtain ⟨_, h_t46, hB⟩ := xo_ob hB
        obtain ⟨t46, e_t46, hB⟩ := xo_nm_e hB
        refine xk_zast hx hb hK hP (hDw _) hS 14 xw_M_at_19 h_t46 (xw_M_set_19 _) d_Mod_lay_37 (fun H locs hP hS => ?_)
        replace hP : va_P D classes (xw_M ad cI cZ t46) H := by rw [e_t46]; exact hP
        clear e_t46
        obtain ⟨v47, e_v47, hB⟩ := xo_nm_e hB
        refine lv_iinc (v := v47) (lv' := [(2, .int v47), (0, .ref (ad 0)), (1, .int x1)]) hx hb d_Mod_lay_38 hl (k := 2) rfl (by rw [e_v47]; rfl) (by decide) rfl (fun ls hl => ?_)
        clear e_v47
        refine lv_goto (tgt := 17) hx hb d_Mod_lay_41 (by decide) ?_
        have q9 := Option.some.inj hB
        subst q9
        exact ih _ _ _ (xo_elL hL) kx0 _ _ _ hP hS (lv_sub hl [1, 2, 0] rfl)
  obtain ⟨y17, hL17, hF⟩ := xo_ob hF
  refine lp17 1000000 (0 : Int32) t43 y17 hL17 ?_ _ _ _ hP hS (lv_sub hl [1, 2, 0] rfl)
  intro t44 ey H locs ls hP hS hl
  subst ey
  refine lv_iload_n hx hb d_Mod_lay_44 rfl (lv_at hl 1 rfl) ?_
  refine lv_if_ne (tgt := 62) hx hb d_Mod_lay_45 (by decide) (fun c_341 => ?_) (fun c_341 => ?_)
  · replace hF := xo_if_f c_341 hF
    exact mg62 _ _ hF _ _ _ hP hS (lv_sub hl [0, 1] rfl)
  · replace hF := xo_if_t c_341 hF
    refine lv_aload_n hx hb d_Mod_lay_48 rfl (lv_at hl 0 rfl) ?_
    refine xk_get (C := R_Mod) (T := F_Mod) (N := 23) hx hb hts i_Mod hown hK hP 0 xw_M_at_0 rfl 18 (by decide) u_684 rfl d_Mod_lay_49 ?_
    refine lv_iconst (v := (0 : Int32)) hx hb d_Mod_lay_52 (by decide) ?_
    refine lv_iconst (v := (1 : Int32)) hx hb d_Mod_lay_53 (by decide) ?_
    obtain ⟨_, h_t48, hF⟩ := xo_ob hF
    obtain ⟨t48, e_t48, hF⟩ := xo_nm_e hF
    refine xk_iast hx hb hK hP (hDw _) hS 13 xw_M_at_18 h_t48 (xw_M_set_18 _) d_Mod_lay_54 (fun H locs hP hS => ?_)
    replace hP : va_P D classes (xw_M ad cI cZ t48) H := by rw [e_t48]; exact hP
    clear e_t48
    refine lv_aload_n hx hb d_Mod_lay_55 rfl (lv_at hl 0 rfl) ?_
    refine xk_get (C := R_Mod) (T := F_Mod) (N := 23) hx hb hts i_Mod hown hK hP 0 xw_M_at_0 rfl 19 (by decide) u_685 rfl d_Mod_lay_56 ?_
    refine lv_iconst (v := (0 : Int32)) hx hb d_Mod_lay_59 (by decide) ?_
    refine lv_iconst (v := (1 : Int32)) hx hb d_Mod_lay_60 (by decide) ?_
    obtain ⟨_, h_t49, hF⟩ := xo_ob hF
    obtain ⟨t49, e_t49, hF⟩ := xo_nm_e hF
    refine xk_zast hx hb hK hP (hDw _) hS 14 xw_M_at_19 h_t49 (xw_M_set_19 _) d_Mod_lay_61 (fun H locs hP hS => ?_)
    replace hP : va_P D classes (xw_M ad cI cZ t49) H := by rw [e_t49]; exact hP
    clear e_t49
    exact mg62 _ _ hF _ _ _ hP hS (lv_sub hl [0, 1] rfl)
set_option maxHeartbeats 4000000 in
set_option maxRecDepth 100000 in
theorem c_Mod_howMany (l : Launch) (D : va_G) (cI cZ : ClassId) (ad : Nat → Nat) (A : Nat → Prop) (adK adV : Nat → Nat) (hDw : ∀ st : XS, va_D A (xw_M ad cI cZ st)) (st : XS) (r9 : Int32) (hF : F_Mod_howMany  st = some r9) : K_I l D cI cZ A adK adV (xw_M ad cI cZ) y_Mod_howMany b_Mod_howMany 3 (some .int) 0 0 [.ref (ad 0)] st r9 st := by
  refine xk_startI (by decide) .int rfl (Nat.le_of_ble_eq_true rfl) ?_
  intro p e s m args below meth c Q ls hx hb hml hown hts hK hE hP hS hl hret
  replace hown : s.vm.findClass R_Mod = some m.cls := hown
  replace hl : lv_has ls 3 [(0, .ref (ad 0))] := hl
  unfold F_Mod_howMany at hF
  refine lv_iconst (v := (0 : Int32)) hx hb d_Mod_howMany_0 (by decide) ?_
  refine lv_istore_n (lv' := [(1, .int (0 : Int32)), (0, .ref (ad 0))]) hx hb d_Mod_howMany_1 rfl hl (by decide) rfl (fun ls hl => ?_)
  refine lv_iconst (v := (0 : Int32)) hx hb d_Mod_howMany_2 (by decide) ?_
  refine lv_istore_n (lv' := [(2, .int (0 : Int32)), (1, .int (0 : Int32)), (0, .ref (ad 0))]) hx hb d_Mod_howMany_3 rfl hl (by decide) rfl (fun ls hl => ?_)
  have lp4 : ∀ (n : Nat) (w4_1 : Int32) (w4_2 : Int32) (y : Int32), xo_lp (fun q : (Int32 × Int32) => F_Mod_howMany_b4 st q.1 q.2) n (w4_1, w4_2) = some y → (∀ (e1 : Int32), e1 = y → ∀ (H : Heap) (locs : List Loc) (ls : Array Slot), va_P D classes (xw_M ad cI cZ st) H → va_S A s.heap H locs → lv_has ls 3 [(1, .int e1)] → W p l e (xk_rm 0 0) s m args below meth c H locs 0 0 Q (F0 m 29 ls [])) → ∀ (H : Heap) (locs : List Loc) (ls : Array Slot), va_P D classes (xw_M ad cI cZ st) H → va_S A s.heap H locs → lv_has ls 3 [(0, .ref (ad 0)), (1, .int w4_1), (2, .int w4_2)] → W p l e (xk_rm 0 0) s m args below meth c H locs 0 0 Q (F0 m 4 ls []) := by
    intro n
    induction n with
    | zero =>
      intro w4_1 w4_2 y hL
      exact nomatch (show (none : Option _) = some y from hL)
    | succ n ih =>
      intro w4_1 w4_2 y hL kx0 H locs ls hP hS hl
      obtain ⟨z9, hB, hL⟩ := xo_lp_s hL
      replace hB : F_Mod_howMany_b4 st w4_1 w4_2 = some z9 := hB
      unfold F_Mod_howMany_b4 at hB
      refine lv_iload_n hx hb d_Mod_howMany_4 rfl (lv_at hl 2 rfl) ?_
      refine lv_sipush (v := (128 : Int32)) hx hb d_Mod_howMany_5 (by decide) ?_
      refine lv_icmp_ge (tgt := 29) hx hb d_Mod_howMany_8 (by decide) (fun c_342 => ?_) (fun c_342 => ?_)
      · replace hB := xo_if_t c_342 hB
        have q9 := Option.some.inj hB
        subst q9
        replace hL := Option.some.inj (xo_elR hL)
        subst hL
        exact kx0 _ rfl _ _ _ hP hS (lv_sub hl [1] rfl)
      · replace hB := xo_if_f c_342 hB
        refine lv_aload_n hx hb d_Mod_howMany_11 rfl (lv_at hl 0 rfl) ?_
        refine xk_get (C := R_Mod) (T := F_Mod) (N := 23) hx hb hts i_Mod hown hK hP 0 xw_M_at_0 rfl 18 (by decide) u_684 rfl d_Mod_howMany_12 ?_
        refine lv_iload_n hx hb d_Mod_howMany_15 rfl (lv_at hl 2 rfl) ?_
        obtain ⟨v2, h_v2, hB⟩ := xo_ob hB
        refine xk_iald hx hb hK hP 13 xw_M_at_18 h_v2 d_Mod_howMany_16 ?_
        refine lv_if_le (tgt := 23) hx hb d_Mod_howMany_17 (by decide) (fun c_343 => ?_) (fun c_343 => ?_)
        · replace hB := xo_if_t c_343 hB
          obtain ⟨v3, e_v3, hB⟩ := xo_nm_e hB
          refine lv_iinc (v := v3) (lv' := [(2, .int v3), (0, .ref (ad 0)), (1, .int w4_1)]) hx hb d_Mod_howMany_23 hl (k := 2) rfl (by rw [e_v3]; rfl) (by decide) rfl (fun ls hl => ?_)
          clear e_v3
          refine lv_goto (tgt := 4) hx hb d_Mod_howMany_26 (by decide) ?_
          have q9 := Option.some.inj hB
          subst q9
          exact ih _ _ _ (xo_elL hL) kx0 _ _ _ hP hS (lv_sub hl [1, 2, 0] rfl)
        · replace hB := xo_if_f c_343 hB
          obtain ⟨v4, e_v4, hB⟩ := xo_nm_e hB
          refine lv_iinc (v := v4) (lv' := [(1, .int v4), (0, .ref (ad 0)), (2, .int w4_2)]) hx hb d_Mod_howMany_20 hl (k := 1) rfl (by rw [e_v4]; rfl) (by decide) rfl (fun ls hl => ?_)
          clear e_v4
          obtain ⟨v5, e_v5, hB⟩ := xo_nm_e hB
          refine lv_iinc (v := v5) (lv' := [(2, .int v5), (1, .int v4), (0, .ref (ad 0))]) hx hb d_Mod_howMany_23 hl (k := 2) rfl (by rw [e_v5]; rfl) (by decide) rfl (fun ls hl => ?_)
          clear e_v5
          refine lv_goto (tgt := 4) hx hb d_Mod_howMany_26 (by decide) ?_
          have q9 := Option.some.inj hB
          subst q9
          exact ih _ _ _ (xo_elL hL) kx0 _ _ _ hP hS (lv_sub hl [2, 1, 0] rfl)
  obtain ⟨y4, hL4, hF⟩ := xo_ob hF
  refine lp4 1000000 (0 : Int32) (0 : Int32) y4 hL4 ?_ _ _ _ hP hS (lv_sub hl [2, 1, 0] rfl)
  intro o1 ey H locs ls hP hS hl
  subst ey
  refine lv_iload_n hx hb d_Mod_howMany_29 rfl (lv_at hl 0 rfl) ?_
  have q9 := Option.some.inj hF
  subst q9
  exact hret 30 _ _ _ d_Mod_howMany_30 rfl hP hS
set_option maxHeartbeats 4000000 in
set_option maxRecDepth 100000 in
theorem c_Mod_quarters (l : Launch) (D : va_G) (cI cZ : ClassId) (ad : Nat → Nat) (A : Nat → Prop) (adK adV : Nat → Nat) (hDw : ∀ st : XS, va_D A (xw_M ad cI cZ st)) (st : XS) (r9 : Int32) (st9 : XS) (hF : F_Mod_quarters  st = some (r9, st9)) : K_I l D cI cZ A adK adV (xw_M ad cI cZ) y_Mod_quarters b_Mod_quarters 1 (some .int) 3 79 [.ref (ad 0)] st r9 st9 := by
  refine xk_startI (by decide) .int rfl (Nat.le_of_ble_eq_true rfl) ?_
  intro p e s m args below meth c Q ls hx hb hml hown hts hK hE hP hS hl hret
  replace hown : s.vm.findClass R_Mod = some m.cls := hown
  replace hl : lv_has ls 1 [(0, .ref (ad 0))] := hl
  unfold F_Mod_quarters at hF
  refine lv_aload_n hx hb d_Mod_quarters_0 rfl (lv_at hl 0 rfl) ?_
  refine lv_aload_n hx hb d_Mod_quarters_1 rfl (lv_at hl 0 rfl) ?_
  refine xk_get (C := R_Mod) (T := F_Mod) (N := 23) hx hb hts i_Mod hown hK hP 0 xw_M_at_0 rfl 0 (by decide) u_666 rfl d_Mod_quarters_2 ?_
  obtain ⟨t1, h_t1, hF⟩ := xo_ob hF
  refine xk_goV (xk_runV (As := [.int (st.1 0 0)]) (rest := []) hx hb hml hown hts hK hE (fun _ h => h) hP hS ok_Mod_lay in_Mod_lay u_828 (c_Mod_lay l D cI cZ ad A adK adV hDw (st.1 0 0) st t1 h_t1) (va_recv hK hP (ci := 4) (q0 := 0) rfl xw_M_at_0) (by decide) rfl hl.1 rfl (Nat.le_of_ble_eq_true rfl) d_Mod_quarters_5 ⟨Nat.le_refl _, Nat.le_refl _⟩) (fun _ h => h) hS (fun H locs hP hS => ?_)
  refine lv_aload_n hx hb d_Mod_quarters_8 rfl (lv_at hl 0 rfl) ?_
  obtain ⟨v2, h_v2, hF⟩ := xo_ob hF
  refine xk_goI (xk_runV (As := []) (rest := []) hx hb hml hown hts hK hE (fun _ h => h) hP hS ok_Mod_howMany in_Mod_howMany u_845 (c_Mod_howMany l D cI cZ ad A adK adV hDw t1 v2 h_v2) (va_recv hK hP (ci := 4) (q0 := 0) rfl xw_M_at_0) (by decide) rfl hl.1 rfl (Nat.le_of_ble_eq_true rfl) d_Mod_quarters_9 ⟨Nat.le_refl _, Nat.le_refl _⟩) (fun _ h => h) hS (fun H locs hP hS => ?_)
  obtain ⟨q8, q9⟩ := xo_s2 hF
  subst q8
  subst q9
  exact hret 12 _ _ _ d_Mod_quarters_12 rfl hP hS
set_option maxHeartbeats 4000000 in
set_option maxRecDepth 100000 in
theorem c_Mod_open (l : Launch) (D : va_G) (cI cZ : ClassId) (ad : Nat → Nat) (A : Nat → Prop) (adK adV : Nat → Nat) (hDw : ∀ st : XS, va_D A (xw_M ad cI cZ st)) (st : XS) (r9 : Int32) (st9 : XS) (hF : F_Mod_open  st = some (r9, st9)) : K_I l D cI cZ A adK adV (xw_M ad cI cZ) y_Mod_open b_Mod_open 3 (some .int) 3 79 [.ref (ad 0)] st r9 st9 := by
  refine xk_startI (by decide) .int rfl (Nat.le_of_ble_eq_true rfl) ?_
  intro p e s m args below meth c Q ls hx hb hml hown hts hK hE hP hS hl hret
  replace hown : s.vm.findClass R_Mod = some m.cls := hown
  replace hl : lv_has ls 3 [(0, .ref (ad 0))] := hl
  unfold F_Mod_open at hF
  refine lv_aload_n hx hb d_Mod_open_0 rfl (lv_at hl 0 rfl) ?_
  refine lv_aload_n hx hb d_Mod_open_1 rfl (lv_at hl 0 rfl) ?_
  refine xk_get (C := R_Mod) (T := F_Mod) (N := 23) hx hb hts i_Mod hown hK hP 0 xw_M_at_0 rfl 0 (by decide) u_666 rfl d_Mod_open_2 ?_
  obtain ⟨t1, h_t1, hF⟩ := xo_ob hF
  refine xk_goV (xk_runV (As := [.int (st.1 0 0)]) (rest := []) hx hb hml hown hts hK hE (fun _ h => h) hP hS ok_Mod_lay in_Mod_lay u_828 (c_Mod_lay l D cI cZ ad A adK adV hDw (st.1 0 0) st t1 h_t1) (va_recv hK hP (ci := 4) (q0 := 0) rfl xw_M_at_0) (by decide) rfl hl.1 rfl (Nat.le_of_ble_eq_true rfl) d_Mod_open_5 ⟨Nat.le_refl _, Nat.le_refl _⟩) (fun _ h => h) hS (fun H locs hP hS => ?_)
  refine lv_iconst (v := (0 : Int32)) hx hb d_Mod_open_8 (by decide) ?_
  refine lv_istore_n (lv' := [(1, .int (0 : Int32)), (0, .ref (ad 0))]) hx hb d_Mod_open_9 rfl hl (by decide) rfl (fun ls hl => ?_)
  refine lv_iconst (v := (0 : Int32)) hx hb d_Mod_open_10 (by decide) ?_
  refine lv_istore_n (lv' := [(2, .int (0 : Int32)), (1, .int (0 : Int32)), (0, .ref (ad 0))]) hx hb d_Mod_open_11 rfl hl (by decide) rfl (fun ls hl => ?_)
  have lp12 : ∀ (n : Nat) (w12_1 : Int32) (w12_2 : Int32) (y : Int32), xo_lp (fun q : (Int32 × Int32) => F_Mod_open_b12 t1 q.1 q.2) n (w12_1, w12_2) = some y → (∀ (e1 : Int32), e1 = y → ∀ (H : Heap) (locs : List Loc) (ls : Array Slot), va_P D classes (xw_M ad cI cZ t1) H → va_S A s.heap H locs → lv_has ls 3 [(1, .int e1)] → W p l e (xk_rm 3 79) s m args below meth c H locs 0 0 Q (F0 m 37 ls [])) → ∀ (H : Heap) (locs : List Loc) (ls : Array Slot), va_P D classes (xw_M ad cI cZ t1) H → va_S A s.heap H locs → lv_has ls 3 [(0, .ref (ad 0)), (1, .int w12_1), (2, .int w12_2)] → W p l e (xk_rm 3 79) s m args below meth c H locs 0 0 Q (F0 m 12 ls []) := by
    intro n
    induction n with
    | zero =>
      intro w12_1 w12_2 y hL
      exact nomatch (show (none : Option _) = some y from hL)
    | succ n ih =>
      intro w12_1 w12_2 y hL kx0 H locs ls hP hS hl
      obtain ⟨z9, hB, hL⟩ := xo_lp_s hL
      replace hB : F_Mod_open_b12 t1 w12_1 w12_2 = some z9 := hB
      unfold F_Mod_open_b12 at hB
      refine lv_iload_n hx hb d_Mod_open_12 rfl (lv_at hl 2 rfl) ?_
      refine lv_sipush (v := (128 : Int32)) hx hb d_Mod_open_13 (by decide) ?_
      refine lv_icmp_ge (tgt := 37) hx hb d_Mod_open_16 (by decide) (fun c_344 => ?_) (fun c_344 => ?_)
      · replace hB := xo_if_t c_344 hB
        have q9 := Option.some.inj hB
        subst q9
        replace hL := Option.some.inj (xo_elR hL)
        subst hL
        exact kx0 _ rfl _ _ _ hP hS (lv_sub hl [1] rfl)
      · replace hB := xo_if_f c_344 hB
        refine lv_aload_n hx hb d_Mod_open_19 rfl (lv_at hl 0 rfl) ?_
        refine xk_get (C := R_Mod) (T := F_Mod) (N := 23) hx hb hts i_Mod hown hK hP 0 xw_M_at_0 rfl 19 (by decide) u_685 rfl d_Mod_open_20 ?_
        refine lv_iload_n hx hb d_Mod_open_23 rfl (lv_at hl 2 rfl) ?_
        obtain ⟨v3, h_v3, hB⟩ := xo_ob hB
        refine xk_zald hx hb hK hP 14 xw_M_at_19 h_v3 d_Mod_open_24 ?_
        refine lv_if_eq (tgt := 31) hx hb d_Mod_open_25 (by decide) (fun c_345 => ?_) (fun c_345 => ?_)
        · replace hB := xo_if_t c_345 hB
          obtain ⟨v4, e_v4, hB⟩ := xo_nm_e hB
          refine lv_iinc (v := v4) (lv' := [(2, .int v4), (0, .ref (ad 0)), (1, .int w12_1)]) hx hb d_Mod_open_31 hl (k := 2) rfl (by rw [e_v4]; rfl) (by decide) rfl (fun ls hl => ?_)
          clear e_v4
          refine lv_goto (tgt := 12) hx hb d_Mod_open_34 (by decide) ?_
          have q9 := Option.some.inj hB
          subst q9
          exact ih _ _ _ (xo_elL hL) kx0 _ _ _ hP hS (lv_sub hl [1, 2, 0] rfl)
        · replace hB := xo_if_f c_345 hB
          obtain ⟨v5, e_v5, hB⟩ := xo_nm_e hB
          refine lv_iinc (v := v5) (lv' := [(1, .int v5), (0, .ref (ad 0)), (2, .int w12_2)]) hx hb d_Mod_open_28 hl (k := 1) rfl (by rw [e_v5]; rfl) (by decide) rfl (fun ls hl => ?_)
          clear e_v5
          obtain ⟨v6, e_v6, hB⟩ := xo_nm_e hB
          refine lv_iinc (v := v6) (lv' := [(2, .int v6), (1, .int v5), (0, .ref (ad 0))]) hx hb d_Mod_open_31 hl (k := 2) rfl (by rw [e_v6]; rfl) (by decide) rfl (fun ls hl => ?_)
          clear e_v6
          refine lv_goto (tgt := 12) hx hb d_Mod_open_34 (by decide) ?_
          have q9 := Option.some.inj hB
          subst q9
          exact ih _ _ _ (xo_elL hL) kx0 _ _ _ hP hS (lv_sub hl [2, 1, 0] rfl)
  obtain ⟨y12, hL12, hF⟩ := xo_ob hF
  refine lp12 1000000 (0 : Int32) (0 : Int32) y12 hL12 ?_ _ _ _ hP hS (lv_sub hl [2, 1, 0] rfl)
  intro o2 ey H locs ls hP hS hl
  subst ey
  refine lv_iload_n hx hb d_Mod_open_37 rfl (lv_at hl 0 rfl) ?_
  obtain ⟨q8, q9⟩ := xo_s2 hF
  subst q8
  subst q9
  exact hret 38 _ _ _ d_Mod_open_38 rfl hP hS
set_option maxHeartbeats 4000000 in
set_option maxRecDepth 100000 in
theorem c_Mod_with (l : Launch) (D : va_G) (cI cZ : ClassId) (ad : Nat → Nat) (A : Nat → Prop) (adK adV : Nat → Nat) (hDw : ∀ st : XS, va_D A (xw_M ad cI cZ st)) (x1 : Int32) (st : XS) (r9 : Int32) (st9 : XS) (hF : F_Mod_with x1 st = some (r9, st9)) : K_I l D cI cZ A adK adV (xw_M ad cI cZ) y_Mod_with b_Mod_with 4 (some .int) 3 79 [.ref (ad 0), .int x1] st r9 st9 := by
  refine xk_startI (by decide) .int rfl (Nat.le_of_ble_eq_true rfl) ?_
  intro p e s m args below meth c Q ls hx hb hml hown hts hK hE hP hS hl hret
  replace hown : s.vm.findClass R_Mod = some m.cls := hown
  replace hl : lv_has ls 4 [(0, .ref (ad 0)), (1, .int x1)] := hl
  unfold F_Mod_with at hF
  refine lv_iload_n hx hb d_Mod_with_0 rfl (lv_at hl 1 rfl) ?_
  refine lv_if_ge (tgt := 11) hx hb d_Mod_with_1 (by decide) (fun c_346 => ?_) (fun c_346 => ?_)
  · replace hF := xo_if_t c_346 hF
    refine lv_iload_n hx hb d_Mod_with_11 rfl (lv_at hl 1 rfl) ?_
    refine lv_bipush (v := (12 : Int32)) hx hb d_Mod_with_12 (by decide) ?_
    refine lv_icmp_le (tgt := 24) hx hb d_Mod_with_14 (by decide) (fun c_347 => ?_) (fun c_347 => ?_)
    · replace hF := xo_if_t c_347 hF
      refine lv_aload_n hx hb d_Mod_with_24 rfl (lv_at hl 0 rfl) ?_
      refine lv_aload_n hx hb d_Mod_with_25 rfl (lv_at hl 0 rfl) ?_
      refine xk_get (C := R_Mod) (T := F_Mod) (N := 23) hx hb hts i_Mod hown hK hP 0 xw_M_at_0 rfl 0 (by decide) u_666 rfl d_Mod_with_26 ?_
      obtain ⟨t1, h_t1, hF⟩ := xo_ob hF
      refine xk_goV (xk_runV (As := [.int (st.1 0 0)]) (rest := []) hx hb hml hown hts hK hE (fun _ h => h) hP hS ok_Mod_lay in_Mod_lay u_828 (c_Mod_lay l D cI cZ ad A adK adV hDw (st.1 0 0) st t1 h_t1) (va_recv hK hP (ci := 4) (q0 := 0) rfl xw_M_at_0) (by decide) rfl hl.1 rfl (Nat.le_of_ble_eq_true rfl) d_Mod_with_29 ⟨Nat.le_refl _, Nat.le_refl _⟩) (fun _ h => h) hS (fun H locs hP hS => ?_)
      refine lv_iconst (v := (0 : Int32)) hx hb d_Mod_with_32 (by decide) ?_
      refine lv_istore_n (lv' := [(2, .int (0 : Int32)), (0, .ref (ad 0)), (1, .int x1)]) hx hb d_Mod_with_33 rfl hl (by decide) rfl (fun ls hl => ?_)
      refine lv_iconst (v := (0 : Int32)) hx hb d_Mod_with_34 (by decide) ?_
      refine lv_istore_n (lv' := [(3, .int (0 : Int32)), (2, .int (0 : Int32)), (0, .ref (ad 0)), (1, .int x1)]) hx hb d_Mod_with_35 rfl hl (by decide) rfl (fun ls hl => ?_)
      have lp36 : ∀ (n : Nat) (w36_2 : Int32) (w36_3 : Int32) (y : Int32), xo_lp (fun q : (Int32 × Int32) => F_Mod_with_b36 x1 t1 q.1 q.2) n (w36_2, w36_3) = some y → (∀ (e2 : Int32), e2 = y → ∀ (H : Heap) (locs : List Loc) (ls : Array Slot), va_P D classes (xw_M ad cI cZ t1) H → va_S A s.heap H locs → lv_has ls 4 [(2, .int e2)] → W p l e (xk_rm 3 79) s m args below meth c H locs 0 0 Q (F0 m 64 ls [])) → ∀ (H : Heap) (locs : List Loc) (ls : Array Slot), va_P D classes (xw_M ad cI cZ t1) H → va_S A s.heap H locs → lv_has ls 4 [(0, .ref (ad 0)), (1, .int x1), (2, .int w36_2), (3, .int w36_3)] → W p l e (xk_rm 3 79) s m args below meth c H locs 0 0 Q (F0 m 36 ls []) := by
        intro n
        induction n with
        | zero =>
          intro w36_2 w36_3 y hL
          exact nomatch (show (none : Option _) = some y from hL)
        | succ n ih =>
          intro w36_2 w36_3 y hL kx0 H locs ls hP hS hl
          obtain ⟨z9, hB, hL⟩ := xo_lp_s hL
          replace hB : F_Mod_with_b36 x1 t1 w36_2 w36_3 = some z9 := hB
          unfold F_Mod_with_b36 at hB
          refine lv_iload_n hx hb d_Mod_with_36 rfl (lv_at hl 3 rfl) ?_
          refine lv_sipush (v := (128 : Int32)) hx hb d_Mod_with_37 (by decide) ?_
          refine lv_icmp_ge (tgt := 64) hx hb d_Mod_with_40 (by decide) (fun c_348 => ?_) (fun c_348 => ?_)
          · replace hB := xo_if_t c_348 hB
            have q9 := Option.some.inj hB
            subst q9
            replace hL := Option.some.inj (xo_elR hL)
            subst hL
            exact kx0 _ rfl _ _ _ hP hS (lv_sub hl [2] rfl)
          · replace hB := xo_if_f c_348 hB
            refine lv_aload_n hx hb d_Mod_with_43 rfl (lv_at hl 0 rfl) ?_
            refine xk_get (C := R_Mod) (T := F_Mod) (N := 23) hx hb hts i_Mod hown hK hP 0 xw_M_at_0 rfl 18 (by decide) u_684 rfl d_Mod_with_44 ?_
            refine lv_iload_n hx hb d_Mod_with_47 rfl (lv_at hl 3 rfl) ?_
            obtain ⟨v3, h_v3, hB⟩ := xo_ob hB
            refine xk_iald hx hb hK hP 13 xw_M_at_18 h_v3 d_Mod_with_48 ?_
            refine lv_iload_n hx hb d_Mod_with_49 rfl (lv_at hl 1 rfl) ?_
            refine lv_iconst (v := (1 : Int32)) hx hb d_Mod_with_50 (by decide) ?_
            refine lv_iadd hx hb d_Mod_with_51 ?_
            refine lv_icmp_ne (tgt := 58) hx hb d_Mod_with_52 (by decide) (fun c_349 => ?_) (fun c_349 => ?_)
            · replace hB := xo_if_f c_349 hB
              obtain ⟨v6, e_v6, hB⟩ := xo_nm_e hB
              refine lv_iinc (v := v6) (lv' := [(3, .int v6), (0, .ref (ad 0)), (1, .int x1), (2, .int w36_2)]) hx hb d_Mod_with_58 hl (k := 3) rfl (by rw [e_v6]; rfl) (by decide) rfl (fun ls hl => ?_)
              clear e_v6
              refine lv_goto (tgt := 36) hx hb d_Mod_with_61 (by decide) ?_
              have q9 := Option.some.inj hB
              subst q9
              exact ih _ _ _ (xo_elL hL) kx0 _ _ _ hP hS (lv_sub hl [1, 2, 3, 0] rfl)
            · replace hB := xo_if_t c_349 hB
              obtain ⟨v4, e_v4, hB⟩ := xo_nm_e hB
              refine lv_iinc (v := v4) (lv' := [(2, .int v4), (0, .ref (ad 0)), (1, .int x1), (3, .int w36_3)]) hx hb d_Mod_with_55 hl (k := 2) rfl (by rw [e_v4]; rfl) (by decide) rfl (fun ls hl => ?_)
              clear e_v4
              obtain ⟨v5, e_v5, hB⟩ := xo_nm_e hB
              refine lv_iinc (v := v5) (lv' := [(3, .int v5), (2, .int v4), (0, .ref (ad 0)), (1, .int x1)]) hx hb d_Mod_with_58 hl (k := 3) rfl (by rw [e_v5]; rfl) (by decide) rfl (fun ls hl => ?_)
              clear e_v5
              refine lv_goto (tgt := 36) hx hb d_Mod_with_61 (by decide) ?_
              have q9 := Option.some.inj hB
              subst q9
              exact ih _ _ _ (xo_elL hL) kx0 _ _ _ hP hS (lv_sub hl [2, 3, 1, 0] rfl)
      obtain ⟨y36, hL36, hF⟩ := xo_ob hF
      refine lp36 1000000 (0 : Int32) (0 : Int32) y36 hL36 ?_ _ _ _ hP hS (lv_sub hl [2, 3, 1, 0] rfl)
      intro o2 ey H locs ls hP hS hl
      subst ey
      refine lv_iload_n hx hb d_Mod_with_64 rfl (lv_at hl 0 rfl) ?_
      obtain ⟨q8, q9⟩ := xo_s2 hF
      subst q8
      subst q9
      exact hret 65 _ _ _ d_Mod_with_65 rfl hP hS
    · replace hF := xo_if_f c_347 hF
      refine lv_aload_n hx hb d_Mod_with_17 rfl (lv_at hl 0 rfl) ?_
      refine lv_bipush (v := (-6 : Int32)) hx hb d_Mod_with_18 (by decide) ?_
      obtain ⟨v7, t8, h_v7, hF⟩ := xo_ob2 hF
      refine xk_goI (xk_runV (As := [.int (-6 : Int32)]) (rest := []) hx hb hml hown hts hK hE (fun _ h => h) hP hS ok_Mod_no in_Mod_no u_741 (c_Mod_no l D cI cZ ad A adK adV hDw (-6 : Int32) st v7 t8 h_v7) (va_recv hK hP (ci := 4) (q0 := 0) rfl xw_M_at_0) (by decide) rfl hl.1 rfl (Nat.le_of_ble_eq_true rfl) d_Mod_with_20 ⟨Nat.le_refl _, Nat.le_refl _⟩) (fun _ h => h) hS (fun H locs hP hS => ?_)
      obtain ⟨q8, q9⟩ := xo_s2 hF
      subst q8
      subst q9
      exact hret 23 _ _ _ d_Mod_with_23 rfl hP hS
  · replace hF := xo_if_f c_346 hF
    refine lv_aload_n hx hb d_Mod_with_4 rfl (lv_at hl 0 rfl) ?_
    refine lv_bipush (v := (-4 : Int32)) hx hb d_Mod_with_5 (by decide) ?_
    obtain ⟨v9, t10, h_v9, hF⟩ := xo_ob2 hF
    refine xk_goI (xk_runV (As := [.int (-4 : Int32)]) (rest := []) hx hb hml hown hts hK hE (fun _ h => h) hP hS ok_Mod_no in_Mod_no u_741 (c_Mod_no l D cI cZ ad A adK adV hDw (-4 : Int32) st v9 t10 h_v9) (va_recv hK hP (ci := 4) (q0 := 0) rfl xw_M_at_0) (by decide) rfl hl.1 rfl (Nat.le_of_ble_eq_true rfl) d_Mod_with_7 ⟨Nat.le_refl _, Nat.le_refl _⟩) (fun _ h => h) hS (fun H locs hP hS => ?_)
    obtain ⟨q8, q9⟩ := xo_s2 hF
    subst q8
    subst q9
    exact hret 10 _ _ _ d_Mod_with_10 rfl hP hS
set_option maxHeartbeats 4000000 in
set_option maxRecDepth 100000 in
theorem c_Mod_isQuarter (l : Launch) (D : va_G) (cI cZ : ClassId) (ad : Nat → Nat) (A : Nat → Prop) (adK adV : Nat → Nat) (hDw : ∀ st : XS, va_D A (xw_M ad cI cZ st)) (x1 : Int32) (st : XS) (r9 : Int32) (st9 : XS) (hF : F_Mod_isQuarter x1 st = some (r9, st9)) : K_I l D cI cZ A adK adV (xw_M ad cI cZ) y_Mod_isQuarter b_Mod_isQuarter 2 (some .boolean) 3 79 [.ref (ad 0), .int x1] st r9 st9 := by
  refine xk_startI (by decide) .boolean rfl (Nat.le_of_ble_eq_true rfl) ?_
  intro p e s m args below meth c Q ls hx hb hml hown hts hK hE hP hS hl hret
  replace hown : s.vm.findClass R_Mod = some m.cls := hown
  replace hl : lv_has ls 2 [(0, .ref (ad 0)), (1, .int x1)] := hl
  unfold F_Mod_isQuarter at hF
  refine lv_aload_n hx hb d_Mod_isQuarter_0 rfl (lv_at hl 0 rfl) ?_
  refine lv_aload_n hx hb d_Mod_isQuarter_1 rfl (lv_at hl 0 rfl) ?_
  refine xk_get (C := R_Mod) (T := F_Mod) (N := 23) hx hb hts i_Mod hown hK hP 0 xw_M_at_0 rfl 0 (by decide) u_666 rfl d_Mod_isQuarter_2 ?_
  obtain ⟨t1, h_t1, hF⟩ := xo_ob hF
  refine xk_goV (xk_runV (As := [.int (st.1 0 0)]) (rest := []) hx hb hml hown hts hK hE (fun _ h => h) hP hS ok_Mod_lay in_Mod_lay u_828 (c_Mod_lay l D cI cZ ad A adK adV hDw (st.1 0 0) st t1 h_t1) (va_recv hK hP (ci := 4) (q0 := 0) rfl xw_M_at_0) (by decide) rfl hl.1 rfl (Nat.le_of_ble_eq_true rfl) d_Mod_isQuarter_5 ⟨Nat.le_refl _, Nat.le_refl _⟩) (fun _ h => h) hS (fun H locs hP hS => ?_)
  refine lv_iload_n hx hb d_Mod_isQuarter_8 rfl (lv_at hl 1 rfl) ?_
  refine lv_iconst (v := (0 : Int32)) hx hb d_Mod_isQuarter_9 (by decide) ?_
  refine lv_bipush (v := (127 : Int32)) hx hb d_Mod_isQuarter_10 (by decide) ?_
  obtain ⟨v2, h_v2, hF⟩ := xo_ob hF
  refine xk_goI (xk_runS (As := [.int x1, .int (0 : Int32), .int (127 : Int32)]) (rest := []) hx hb hml hown hts hK hE (fun _ h => h) hP hS ok_Mod_within st_Mod_within u_765 (c_Mod_within l D cI cZ ad A adK adV hDw x1 (0 : Int32) (127 : Int32) t1 v2 h_v2) (by decide) rfl hl.1 rfl (Nat.le_of_ble_eq_true rfl) d_Mod_isQuarter_12 ⟨Nat.le_refl _, Nat.le_refl _⟩) (fun _ h => h) hS (fun H locs hP hS => ?_)
  refine lv_if_eq (tgt := 31) hx hb d_Mod_isQuarter_15 (by decide) (fun c_350 => ?_) (fun c_350 => ?_)
  · replace hF := xo_if_t c_350 hF
    refine lv_iconst (v := (0 : Int32)) hx hb d_Mod_isQuarter_31 (by decide) ?_
    obtain ⟨q8, q9⟩ := xo_s2 hF
    subst q8
    subst q9
    exact hret 32 _ _ _ d_Mod_isQuarter_32 rfl hP hS
  · replace hF := xo_if_f c_350 hF
    refine lv_aload_n hx hb d_Mod_isQuarter_18 rfl (lv_at hl 0 rfl) ?_
    refine xk_get (C := R_Mod) (T := F_Mod) (N := 23) hx hb hts i_Mod hown hK hP 0 xw_M_at_0 rfl 18 (by decide) u_684 rfl d_Mod_isQuarter_19 ?_
    refine lv_iload_n hx hb d_Mod_isQuarter_22 rfl (lv_at hl 1 rfl) ?_
    obtain ⟨v3, h_v3, hF⟩ := xo_ob hF
    refine xk_iald hx hb hK hP 13 xw_M_at_18 h_v3 d_Mod_isQuarter_23 ?_
    refine lv_if_le (tgt := 31) hx hb d_Mod_isQuarter_24 (by decide) (fun c_351 => ?_) (fun c_351 => ?_)
    · replace hF := xo_if_t c_351 hF
      refine lv_iconst (v := (0 : Int32)) hx hb d_Mod_isQuarter_31 (by decide) ?_
      obtain ⟨q8, q9⟩ := xo_s2 hF
      subst q8
      subst q9
      exact hret 32 _ _ _ d_Mod_isQuarter_32 rfl hP hS
    · replace hF := xo_if_f c_351 hF
      refine lv_iconst (v := (1 : Int32)) hx hb d_Mod_isQuarter_27 (by decide) ?_
      refine lv_goto (tgt := 32) hx hb d_Mod_isQuarter_28 (by decide) ?_
      obtain ⟨q8, q9⟩ := xo_s2 hF
      subst q8
      subst q9
      exact hret 32 _ _ _ d_Mod_isQuarter_32 rfl hP hS
set_option maxHeartbeats 4000000 in
set_option maxRecDepth 100000 in
theorem c_Mod_corners (l : Launch) (D : va_G) (cI cZ : ClassId) (ad : Nat → Nat) (A : Nat → Prop) (adK adV : Nat → Nat) (hDw : ∀ st : XS, va_D A (xw_M ad cI cZ st)) (x1 : Int32) (st : XS) (r9 : Int32) (st9 : XS) (hF : F_Mod_corners x1 st = some (r9, st9)) : K_I l D cI cZ A adK adV (xw_M ad cI cZ) y_Mod_corners b_Mod_corners 2 (some .int) 4 100 [.ref (ad 0), .int x1] st r9 st9 := by
  refine xk_startI (by decide) .int rfl (Nat.le_of_ble_eq_true rfl) ?_
  intro p e s m args below meth c Q ls hx hb hml hown hts hK hE hP hS hl hret
  replace hown : s.vm.findClass R_Mod = some m.cls := hown
  replace hl : lv_has ls 2 [(0, .ref (ad 0)), (1, .int x1)] := hl
  unfold F_Mod_corners at hF
  refine lv_aload_n hx hb d_Mod_corners_0 rfl (lv_at hl 0 rfl) ?_
  refine lv_iload_n hx hb d_Mod_corners_1 rfl (lv_at hl 1 rfl) ?_
  obtain ⟨v1, t2, h_v1, hF⟩ := xo_ob2 hF
  refine xk_goI (xk_runV (As := [.int x1]) (rest := []) hx hb hml hown hts hK hE (fun _ h => h) hP hS ok_Mod_isQuarter in_Mod_isQuarter u_861 (c_Mod_isQuarter l D cI cZ ad A adK adV hDw x1 st v1 t2 h_v1) (va_recv hK hP (ci := 4) (q0 := 0) rfl xw_M_at_0) (by decide) rfl hl.1 rfl (Nat.le_of_ble_eq_true rfl) d_Mod_corners_2 ⟨Nat.le_refl _, Nat.le_refl _⟩) (fun _ h => h) hS (fun H locs hP hS => ?_)
  refine lv_if_eq (tgt := 19) hx hb d_Mod_corners_5 (by decide) (fun c_352 => ?_) (fun c_352 => ?_)
  · replace hF := xo_if_t c_352 hF
    refine lv_aload_n hx hb d_Mod_corners_19 rfl (lv_at hl 0 rfl) ?_
    refine lv_iconst (v := (-1 : Int32)) hx hb d_Mod_corners_20 (by decide) ?_
    obtain ⟨v3, t4, h_v3, hF⟩ := xo_ob2 hF
    refine xk_goI (xk_runV (As := [.int (-1 : Int32)]) (rest := []) hx hb hml hown hts hK hE (fun _ h => h) hP hS ok_Mod_no in_Mod_no u_741 (c_Mod_no l D cI cZ ad A adK adV hDw (-1 : Int32) t2 v3 t4 h_v3) (va_recv hK hP (ci := 4) (q0 := 0) rfl xw_M_at_0) (by decide) rfl hl.1 rfl (Nat.le_of_ble_eq_true rfl) d_Mod_corners_21 ⟨Nat.le_refl _, Nat.le_refl _⟩) (fun _ h => h) hS (fun H locs hP hS => ?_)
    obtain ⟨q8, q9⟩ := xo_s2 hF
    subst q8
    subst q9
    exact hret 24 _ _ _ d_Mod_corners_24 rfl hP hS
  · replace hF := xo_if_f c_352 hF
    refine lv_aload_n hx hb d_Mod_corners_8 rfl (lv_at hl 0 rfl) ?_
    refine xk_get (C := R_Mod) (T := F_Mod) (N := 23) hx hb hts i_Mod hown hK hP 0 xw_M_at_0 rfl 18 (by decide) u_684 rfl d_Mod_corners_9 ?_
    refine lv_iload_n hx hb d_Mod_corners_12 rfl (lv_at hl 1 rfl) ?_
    obtain ⟨v5, h_v5, hF⟩ := xo_ob hF
    refine xk_iald hx hb hK hP 13 xw_M_at_18 h_v5 d_Mod_corners_13 ?_
    refine lv_iconst (v := (1 : Int32)) hx hb d_Mod_corners_14 (by decide) ?_
    refine lv_isub hx hb d_Mod_corners_15 ?_
    refine lv_goto (tgt := 24) hx hb d_Mod_corners_16 (by decide) ?_
    obtain ⟨q8, q9⟩ := xo_s2 hF
    subst q8
    subst q9
    exact hret 24 _ _ _ d_Mod_corners_24 rfl hP hS
set_option maxHeartbeats 4000000 in
set_option maxRecDepth 100000 in
theorem c_Mod_sidesOf (l : Launch) (D : va_G) (cI cZ : ClassId) (ad : Nat → Nat) (A : Nat → Prop) (adK adV : Nat → Nat) (hDw : ∀ st : XS, va_D A (xw_M ad cI cZ st)) (x1 : Int32) (st : XS) (r9 : Int32) (hF : F_Mod_sidesOf x1 st = some r9) : K_I l D cI cZ A adK adV (xw_M ad cI cZ) y_Mod_sidesOf b_Mod_sidesOf 4 (some .int) 0 0 [.ref (ad 0), .int x1] st r9 st := by
  refine xk_startI (by decide) .int rfl (Nat.le_of_ble_eq_true rfl) ?_
  intro p e s m args below meth c Q ls hx hb hml hown hts hK hE hP hS hl hret
  replace hown : s.vm.findClass R_Mod = some m.cls := hown
  replace hl : lv_has ls 4 [(0, .ref (ad 0)), (1, .int x1)] := hl
  unfold F_Mod_sidesOf at hF
  refine lv_iconst (v := (0 : Int32)) hx hb d_Mod_sidesOf_0 (by decide) ?_
  refine lv_istore_n (lv' := [(2, .int (0 : Int32)), (0, .ref (ad 0)), (1, .int x1)]) hx hb d_Mod_sidesOf_1 rfl hl (by decide) rfl (fun ls hl => ?_)
  refine lv_iconst (v := (0 : Int32)) hx hb d_Mod_sidesOf_2 (by decide) ?_
  refine lv_istore_n (lv' := [(3, .int (0 : Int32)), (2, .int (0 : Int32)), (0, .ref (ad 0)), (1, .int x1)]) hx hb d_Mod_sidesOf_3 rfl hl (by decide) rfl (fun ls hl => ?_)
  have lp4 : ∀ (n : Nat) (w4_2 : Int32) (w4_3 : Int32) (y : Int32), xo_lp (fun q : (Int32 × Int32) => F_Mod_sidesOf_b4 x1 st q.1 q.2) n (w4_2, w4_3) = some y → (∀ (e2 : Int32), e2 = y → ∀ (H : Heap) (locs : List Loc) (ls : Array Slot), va_P D classes (xw_M ad cI cZ st) H → va_S A s.heap H locs → lv_has ls 4 [(2, .int e2)] → W p l e (xk_rm 0 0) s m args below meth c H locs 0 0 Q (F0 m 34 ls [])) → ∀ (H : Heap) (locs : List Loc) (ls : Array Slot), va_P D classes (xw_M ad cI cZ st) H → va_S A s.heap H locs → lv_has ls 4 [(0, .ref (ad 0)), (1, .int x1), (2, .int w4_2), (3, .int w4_3)] → W p l e (xk_rm 0 0) s m args below meth c H locs 0 0 Q (F0 m 4 ls []) := by
    intro n
    induction n with
    | zero =>
      intro w4_2 w4_3 y hL
      exact nomatch (show (none : Option _) = some y from hL)
    | succ n ih =>
      intro w4_2 w4_3 y hL kx0 H locs ls hP hS hl
      obtain ⟨z9, hB, hL⟩ := xo_lp_s hL
      replace hB : F_Mod_sidesOf_b4 x1 st w4_2 w4_3 = some z9 := hB
      unfold F_Mod_sidesOf_b4 at hB
      refine lv_iload_n hx hb d_Mod_sidesOf_4 rfl (lv_at hl 3 rfl) ?_
      refine lv_aload_n hx hb d_Mod_sidesOf_5 rfl (lv_at hl 0 rfl) ?_
      refine xk_get (C := R_Mod) (T := F_Mod) (N := 23) hx hb hts i_Mod hown hK hP 0 xw_M_at_0 rfl 0 (by decide) u_666 rfl d_Mod_sidesOf_6 ?_
      refine lv_icmp_ge (tgt := 34) hx hb d_Mod_sidesOf_9 (by decide) (fun c_353 => ?_) (fun c_353 => ?_)
      · replace hB := xo_if_t c_353 hB
        have q9 := Option.some.inj hB
        subst q9
        replace hL := Option.some.inj (xo_elR hL)
        subst hL
        exact kx0 _ rfl _ _ _ hP hS (lv_sub hl [2] rfl)
      · replace hB := xo_if_f c_353 hB
        refine lv_aload_n hx hb d_Mod_sidesOf_12 rfl (lv_at hl 0 rfl) ?_
        refine xk_get (C := R_Mod) (T := F_Mod) (N := 23) hx hb hts i_Mod hown hK hP 0 xw_M_at_0 rfl 18 (by decide) u_684 rfl d_Mod_sidesOf_13 ?_
        refine lv_iload_n hx hb d_Mod_sidesOf_16 rfl (lv_at hl 1 rfl) ?_
        refine lv_iconst (v := (1 : Int32)) hx hb d_Mod_sidesOf_17 (by decide) ?_
        refine lv_iload_n hx hb d_Mod_sidesOf_18 rfl (lv_at hl 3 rfl) ?_
        refine lv_ishl hx hb d_Mod_sidesOf_19 ?_
        refine lv_ixor hx hb d_Mod_sidesOf_20 ?_
        obtain ⟨v2, h_v2, hB⟩ := xo_ob hB
        refine xk_iald hx hb hK hP 13 xw_M_at_18 h_v2 d_Mod_sidesOf_21 ?_
        refine lv_if_le (tgt := 28) hx hb d_Mod_sidesOf_22 (by decide) (fun c_354 => ?_) (fun c_354 => ?_)
        · replace hB := xo_if_t c_354 hB
          obtain ⟨v3, e_v3, hB⟩ := xo_nm_e hB
          refine lv_iinc (v := v3) (lv' := [(3, .int v3), (0, .ref (ad 0)), (1, .int x1), (2, .int w4_2)]) hx hb d_Mod_sidesOf_28 hl (k := 3) rfl (by rw [e_v3]; rfl) (by decide) rfl (fun ls hl => ?_)
          clear e_v3
          refine lv_goto (tgt := 4) hx hb d_Mod_sidesOf_31 (by decide) ?_
          have q9 := Option.some.inj hB
          subst q9
          exact ih _ _ _ (xo_elL hL) kx0 _ _ _ hP hS (lv_sub hl [1, 2, 3, 0] rfl)
        · replace hB := xo_if_f c_354 hB
          obtain ⟨v4, e_v4, hB⟩ := xo_nm_e hB
          refine lv_iinc (v := v4) (lv' := [(2, .int v4), (0, .ref (ad 0)), (1, .int x1), (3, .int w4_3)]) hx hb d_Mod_sidesOf_25 hl (k := 2) rfl (by rw [e_v4]; rfl) (by decide) rfl (fun ls hl => ?_)
          clear e_v4
          obtain ⟨v5, e_v5, hB⟩ := xo_nm_e hB
          refine lv_iinc (v := v5) (lv' := [(3, .int v5), (2, .int v4), (0, .ref (ad 0)), (1, .int x1)]) hx hb d_Mod_sidesOf_28 hl (k := 3) rfl (by rw [e_v5]; rfl) (by decide) rfl (fun ls hl => ?_)
          clear e_v5
          refine lv_goto (tgt := 4) hx hb d_Mod_sidesOf_31 (by decide) ?_
          have q9 := Option.some.inj hB
          subst q9
          exact ih _ _ _ (xo_elL hL) kx0 _ _ _ hP hS (lv_sub hl [2, 3, 1, 0] rfl)
  obtain ⟨y4, hL4, hF⟩ := xo_ob hF
  refine lp4 1000000 (0 : Int32) (0 : Int32) y4 hL4 ?_ _ _ _ hP hS (lv_sub hl [2, 3, 1, 0] rfl)
  intro o1 ey H locs ls hP hS hl
  subst ey
  refine lv_iload_n hx hb d_Mod_sidesOf_34 rfl (lv_at hl 0 rfl) ?_
  have q9 := Option.some.inj hF
  subst q9
  exact hret 35 _ _ _ d_Mod_sidesOf_35 rfl hP hS
set_option maxHeartbeats 4000000 in
set_option maxRecDepth 100000 in
theorem c_Mod_sides (l : Launch) (D : va_G) (cI cZ : ClassId) (ad : Nat → Nat) (A : Nat → Prop) (adK adV : Nat → Nat) (hDw : ∀ st : XS, va_D A (xw_M ad cI cZ st)) (x1 : Int32) (st : XS) (r9 : Int32) (st9 : XS) (hF : F_Mod_sides x1 st = some (r9, st9)) : K_I l D cI cZ A adK adV (xw_M ad cI cZ) y_Mod_sides b_Mod_sides 2 (some .int) 4 100 [.ref (ad 0), .int x1] st r9 st9 := by
  refine xk_startI (by decide) .int rfl (Nat.le_of_ble_eq_true rfl) ?_
  intro p e s m args below meth c Q ls hx hb hml hown hts hK hE hP hS hl hret
  replace hown : s.vm.findClass R_Mod = some m.cls := hown
  replace hl : lv_has ls 2 [(0, .ref (ad 0)), (1, .int x1)] := hl
  unfold F_Mod_sides at hF
  refine lv_aload_n hx hb d_Mod_sides_0 rfl (lv_at hl 0 rfl) ?_
  refine lv_iload_n hx hb d_Mod_sides_1 rfl (lv_at hl 1 rfl) ?_
  obtain ⟨v1, t2, h_v1, hF⟩ := xo_ob2 hF
  refine xk_goI (xk_runV (As := [.int x1]) (rest := []) hx hb hml hown hts hK hE (fun _ h => h) hP hS ok_Mod_isQuarter in_Mod_isQuarter u_861 (c_Mod_isQuarter l D cI cZ ad A adK adV hDw x1 st v1 t2 h_v1) (va_recv hK hP (ci := 4) (q0 := 0) rfl xw_M_at_0) (by decide) rfl hl.1 rfl (Nat.le_of_ble_eq_true rfl) d_Mod_sides_2 ⟨Nat.le_refl _, Nat.le_refl _⟩) (fun _ h => h) hS (fun H locs hP hS => ?_)
  refine lv_if_eq (tgt := 16) hx hb d_Mod_sides_5 (by decide) (fun c_355 => ?_) (fun c_355 => ?_)
  · replace hF := xo_if_t c_355 hF
    refine lv_aload_n hx hb d_Mod_sides_16 rfl (lv_at hl 0 rfl) ?_
    refine lv_iconst (v := (-1 : Int32)) hx hb d_Mod_sides_17 (by decide) ?_
    obtain ⟨v3, t4, h_v3, hF⟩ := xo_ob2 hF
    refine xk_goI (xk_runV (As := [.int (-1 : Int32)]) (rest := []) hx hb hml hown hts hK hE (fun _ h => h) hP hS ok_Mod_no in_Mod_no u_741 (c_Mod_no l D cI cZ ad A adK adV hDw (-1 : Int32) t2 v3 t4 h_v3) (va_recv hK hP (ci := 4) (q0 := 0) rfl xw_M_at_0) (by decide) rfl hl.1 rfl (Nat.le_of_ble_eq_true rfl) d_Mod_sides_18 ⟨Nat.le_refl _, Nat.le_refl _⟩) (fun _ h => h) hS (fun H locs hP hS => ?_)
    obtain ⟨q8, q9⟩ := xo_s2 hF
    subst q8
    subst q9
    exact hret 21 _ _ _ d_Mod_sides_21 rfl hP hS
  · replace hF := xo_if_f c_355 hF
    refine lv_aload_n hx hb d_Mod_sides_8 rfl (lv_at hl 0 rfl) ?_
    refine lv_iload_n hx hb d_Mod_sides_9 rfl (lv_at hl 1 rfl) ?_
    obtain ⟨v5, h_v5, hF⟩ := xo_ob hF
    refine xk_goI (xk_runV (As := [.int x1]) (rest := []) hx hb hml hown hts hK hE (fun _ h => h) hP hS ok_Mod_sidesOf in_Mod_sidesOf u_869 (c_Mod_sidesOf l D cI cZ ad A adK adV hDw x1 t2 v5 h_v5) (va_recv hK hP (ci := 4) (q0 := 0) rfl xw_M_at_0) (by decide) rfl hl.1 rfl (Nat.le_of_ble_eq_true rfl) d_Mod_sides_10 ⟨Nat.le_refl _, Nat.le_refl _⟩) (fun _ h => h) hS (fun H locs hP hS => ?_)
    refine lv_goto (tgt := 21) hx hb d_Mod_sides_13 (by decide) ?_
    obtain ⟨q8, q9⟩ := xo_s2 hF
    subst q8
    subst q9
    exact hret 21 _ _ _ d_Mod_sides_21 rfl hP hS
set_option maxHeartbeats 4000000 in
set_option maxRecDepth 100000 in
theorem c_Mod_isOpen (l : Launch) (D : va_G) (cI cZ : ClassId) (ad : Nat → Nat) (A : Nat → Prop) (adK adV : Nat → Nat) (hDw : ∀ st : XS, va_D A (xw_M ad cI cZ st)) (x1 : Int32) (st : XS) (r9 : Int32) (st9 : XS) (hF : F_Mod_isOpen x1 st = some (r9, st9)) : K_I l D cI cZ A adK adV (xw_M ad cI cZ) y_Mod_isOpen b_Mod_isOpen 2 (some .int) 4 100 [.ref (ad 0), .int x1] st r9 st9 := by
  refine xk_startI (by decide) .int rfl (Nat.le_of_ble_eq_true rfl) ?_
  intro p e s m args below meth c Q ls hx hb hml hown hts hK hE hP hS hl hret
  replace hown : s.vm.findClass R_Mod = some m.cls := hown
  replace hl : lv_has ls 2 [(0, .ref (ad 0)), (1, .int x1)] := hl
  unfold F_Mod_isOpen at hF
  refine lv_aload_n hx hb d_Mod_isOpen_0 rfl (lv_at hl 0 rfl) ?_
  refine lv_iload_n hx hb d_Mod_isOpen_1 rfl (lv_at hl 1 rfl) ?_
  obtain ⟨v1, t2, h_v1, hF⟩ := xo_ob2 hF
  refine xk_goI (xk_runV (As := [.int x1]) (rest := []) hx hb hml hown hts hK hE (fun _ h => h) hP hS ok_Mod_isQuarter in_Mod_isQuarter u_861 (c_Mod_isQuarter l D cI cZ ad A adK adV hDw x1 st v1 t2 h_v1) (va_recv hK hP (ci := 4) (q0 := 0) rfl xw_M_at_0) (by decide) rfl hl.1 rfl (Nat.le_of_ble_eq_true rfl) d_Mod_isOpen_2 ⟨Nat.le_refl _, Nat.le_refl _⟩) (fun _ h => h) hS (fun H locs hP hS => ?_)
  refine lv_if_ne (tgt := 14) hx hb d_Mod_isOpen_5 (by decide) (fun c_356 => ?_) (fun c_356 => ?_)
  · replace hF := xo_if_f c_356 hF
    refine lv_aload_n hx hb d_Mod_isOpen_14 rfl (lv_at hl 0 rfl) ?_
    refine xk_get (C := R_Mod) (T := F_Mod) (N := 23) hx hb hts i_Mod hown hK hP 0 xw_M_at_0 rfl 19 (by decide) u_685 rfl d_Mod_isOpen_15 ?_
    refine lv_iload_n hx hb d_Mod_isOpen_18 rfl (lv_at hl 1 rfl) ?_
    obtain ⟨v5, h_v5, hF⟩ := xo_ob hF
    refine xk_zald hx hb hK hP 14 xw_M_at_19 h_v5 d_Mod_isOpen_19 ?_
    refine lv_if_eq (tgt := 27) hx hb d_Mod_isOpen_20 (by decide) (fun c_357 => ?_) (fun c_357 => ?_)
    · replace hF := xo_if_t c_357 hF
      refine lv_iconst (v := (0 : Int32)) hx hb d_Mod_isOpen_27 (by decide) ?_
      obtain ⟨q8, q9⟩ := xo_s2 hF
      subst q8
      subst q9
      exact hret 28 _ _ _ d_Mod_isOpen_28 rfl hP hS
    · replace hF := xo_if_f c_357 hF
      refine lv_iconst (v := (1 : Int32)) hx hb d_Mod_isOpen_23 (by decide) ?_
      refine lv_goto (tgt := 28) hx hb d_Mod_isOpen_24 (by decide) ?_
      obtain ⟨q8, q9⟩ := xo_s2 hF
      subst q8
      subst q9
      exact hret 28 _ _ _ d_Mod_isOpen_28 rfl hP hS
  · replace hF := xo_if_t c_356 hF
    refine lv_aload_n hx hb d_Mod_isOpen_8 rfl (lv_at hl 0 rfl) ?_
    refine lv_iconst (v := (-1 : Int32)) hx hb d_Mod_isOpen_9 (by decide) ?_
    obtain ⟨v3, t4, h_v3, hF⟩ := xo_ob2 hF
    refine xk_goI (xk_runV (As := [.int (-1 : Int32)]) (rest := []) hx hb hml hown hts hK hE (fun _ h => h) hP hS ok_Mod_no in_Mod_no u_741 (c_Mod_no l D cI cZ ad A adK adV hDw (-1 : Int32) t2 v3 t4 h_v3) (va_recv hK hP (ci := 4) (q0 := 0) rfl xw_M_at_0) (by decide) rfl hl.1 rfl (Nat.le_of_ble_eq_true rfl) d_Mod_isOpen_10 ⟨Nat.le_refl _, Nat.le_refl _⟩) (fun _ h => h) hS (fun H locs hP hS => ?_)
    obtain ⟨q8, q9⟩ := xo_s2 hF
    subst q8
    subst q9
    exact hret 13 _ _ _ d_Mod_isOpen_13 rfl hP hS
set_option maxHeartbeats 4000000 in
set_option maxRecDepth 100000 in
theorem c_Mod_whole (l : Launch) (D : va_G) (cI cZ : ClassId) (ad : Nat → Nat) (A : Nat → Prop) (adK adV : Nat → Nat) (hDw : ∀ st : XS, va_D A (xw_M ad cI cZ st)) (st : XS) (r9 : Int32) (st9 : XS) (hF : F_Mod_whole  st = some (r9, st9)) : K_I l D cI cZ A adK adV (xw_M ad cI cZ) y_Mod_whole b_Mod_whole 3 (some .int) 3 79 [.ref (ad 0)] st r9 st9 := by
  refine xk_startI (by decide) .int rfl (Nat.le_of_ble_eq_true rfl) ?_
  intro p e s m args below meth c Q ls hx hb hml hown hts hK hE hP hS hl hret
  replace hown : s.vm.findClass R_Mod = some m.cls := hown
  replace hl : lv_has ls 3 [(0, .ref (ad 0))] := hl
  unfold F_Mod_whole at hF
  refine lv_aload_n hx hb d_Mod_whole_0 rfl (lv_at hl 0 rfl) ?_
  refine lv_aload_n hx hb d_Mod_whole_1 rfl (lv_at hl 0 rfl) ?_
  refine xk_get (C := R_Mod) (T := F_Mod) (N := 23) hx hb hts i_Mod hown hK hP 0 xw_M_at_0 rfl 0 (by decide) u_666 rfl d_Mod_whole_2 ?_
  obtain ⟨t1, h_t1, hF⟩ := xo_ob hF
  refine xk_goV (xk_runV (As := [.int (st.1 0 0)]) (rest := []) hx hb hml hown hts hK hE (fun _ h => h) hP hS ok_Mod_lay in_Mod_lay u_828 (c_Mod_lay l D cI cZ ad A adK adV hDw (st.1 0 0) st t1 h_t1) (va_recv hK hP (ci := 4) (q0 := 0) rfl xw_M_at_0) (by decide) rfl hl.1 rfl (Nat.le_of_ble_eq_true rfl) d_Mod_whole_5 ⟨Nat.le_refl _, Nat.le_refl _⟩) (fun _ h => h) hS (fun H locs hP hS => ?_)
  refine lv_iconst (v := (0 : Int32)) hx hb d_Mod_whole_8 (by decide) ?_
  refine lv_istore_n (lv' := [(1, .int (0 : Int32)), (0, .ref (ad 0))]) hx hb d_Mod_whole_9 rfl hl (by decide) rfl (fun ls hl => ?_)
  refine lv_iconst (v := (0 : Int32)) hx hb d_Mod_whole_10 (by decide) ?_
  refine lv_istore_n (lv' := [(2, .int (0 : Int32)), (1, .int (0 : Int32)), (0, .ref (ad 0))]) hx hb d_Mod_whole_11 rfl hl (by decide) rfl (fun ls hl => ?_)
  have lp12 : ∀ (n : Nat) (w12_1 : Int32) (w12_2 : Int32) (y : Int32), xo_lp (fun q : (Int32 × Int32) => F_Mod_whole_b12 t1 q.1 q.2) n (w12_1, w12_2) = some y → (∀ (e1 : Int32), e1 = y → ∀ (H : Heap) (locs : List Loc) (ls : Array Slot), va_P D classes (xw_M ad cI cZ t1) H → va_S A s.heap H locs → lv_has ls 3 [(1, .int e1)] → W p l e (xk_rm 3 79) s m args below meth c H locs 0 0 Q (F0 m 49 ls [])) → ∀ (H : Heap) (locs : List Loc) (ls : Array Slot), va_P D classes (xw_M ad cI cZ t1) H → va_S A s.heap H locs → lv_has ls 3 [(0, .ref (ad 0)), (1, .int w12_1), (2, .int w12_2)] → W p l e (xk_rm 3 79) s m args below meth c H locs 0 0 Q (F0 m 12 ls []) := by
    intro n
    induction n with
    | zero =>
      intro w12_1 w12_2 y hL
      exact nomatch (show (none : Option _) = some y from hL)
    | succ n ih =>
      intro w12_1 w12_2 y hL kx0 H locs ls hP hS hl
      obtain ⟨z9, hB, hL⟩ := xo_lp_s hL
      replace hB : F_Mod_whole_b12 t1 w12_1 w12_2 = some z9 := hB
      unfold F_Mod_whole_b12 at hB
      refine lv_iload_n hx hb d_Mod_whole_12 rfl (lv_at hl 2 rfl) ?_
      refine lv_sipush (v := (128 : Int32)) hx hb d_Mod_whole_13 (by decide) ?_
      refine lv_icmp_ge (tgt := 49) hx hb d_Mod_whole_16 (by decide) (fun c_358 => ?_) (fun c_358 => ?_)
      · replace hB := xo_if_t c_358 hB
        have q9 := Option.some.inj hB
        subst q9
        replace hL := Option.some.inj (xo_elR hL)
        subst hL
        exact kx0 _ rfl _ _ _ hP hS (lv_sub hl [1] rfl)
      · replace hB := xo_if_f c_358 hB
        refine lv_aload_n hx hb d_Mod_whole_19 rfl (lv_at hl 0 rfl) ?_
        refine xk_get (C := R_Mod) (T := F_Mod) (N := 23) hx hb hts i_Mod hown hK hP 0 xw_M_at_0 rfl 18 (by decide) u_684 rfl d_Mod_whole_20 ?_
        refine lv_iload_n hx hb d_Mod_whole_23 rfl (lv_at hl 2 rfl) ?_
        obtain ⟨v3, h_v3, hB⟩ := xo_ob hB
        refine xk_iald hx hb hK hP 13 xw_M_at_18 h_v3 d_Mod_whole_24 ?_
        refine lv_if_le (tgt := 43) hx hb d_Mod_whole_25 (by decide) (fun c_359 => ?_) (fun c_359 => ?_)
        · replace hB := xo_if_t c_359 hB
          obtain ⟨v4, e_v4, hB⟩ := xo_nm_e hB
          refine lv_iinc (v := v4) (lv' := [(2, .int v4), (0, .ref (ad 0)), (1, .int w12_1)]) hx hb d_Mod_whole_43 hl (k := 2) rfl (by rw [e_v4]; rfl) (by decide) rfl (fun ls hl => ?_)
          clear e_v4
          refine lv_goto (tgt := 12) hx hb d_Mod_whole_46 (by decide) ?_
          have q9 := Option.some.inj hB
          subst q9
          exact ih _ _ _ (xo_elL hL) kx0 _ _ _ hP hS (lv_sub hl [1, 2, 0] rfl)
        · replace hB := xo_if_f c_359 hB
          refine lv_aload_n hx hb d_Mod_whole_28 rfl (lv_at hl 0 rfl) ?_
          refine lv_iload_n hx hb d_Mod_whole_29 rfl (lv_at hl 2 rfl) ?_
          obtain ⟨v5, h_v5, hB⟩ := xo_ob hB
          refine xk_goI (xk_runV (As := [.int w12_2]) (rest := []) hx hb hml hown hts hK hE (fun _ h => h) hP hS ok_Mod_sidesOf in_Mod_sidesOf u_869 (c_Mod_sidesOf l D cI cZ ad A adK adV hDw w12_2 t1 v5 h_v5) (va_recv hK hP (ci := 4) (q0 := 0) rfl xw_M_at_0) (by decide) rfl hl.1 rfl (Nat.le_of_ble_eq_true rfl) d_Mod_whole_30 ⟨Nat.le_refl _, Nat.le_refl _⟩) (fun _ h => h) hS (fun H locs hP hS => ?_)
          refine lv_aload_n hx hb d_Mod_whole_33 rfl (lv_at hl 0 rfl) ?_
          refine xk_get (C := R_Mod) (T := F_Mod) (N := 23) hx hb hts i_Mod hown hK hP 0 xw_M_at_0 rfl 0 (by decide) u_666 rfl d_Mod_whole_34 ?_
          refine lv_icmp_ne (tgt := 43) hx hb d_Mod_whole_37 (by decide) (fun c_360 => ?_) (fun c_360 => ?_)
          · replace hB := xo_if_f c_360 hB
            obtain ⟨v8, e_v8, hB⟩ := xo_nm_e hB
            refine lv_iinc (v := v8) (lv' := [(2, .int v8), (0, .ref (ad 0)), (1, .int w12_1)]) hx hb d_Mod_whole_43 hl (k := 2) rfl (by rw [e_v8]; rfl) (by decide) rfl (fun ls hl => ?_)
            clear e_v8
            refine lv_goto (tgt := 12) hx hb d_Mod_whole_46 (by decide) ?_
            have q9 := Option.some.inj hB
            subst q9
            exact ih _ _ _ (xo_elL hL) kx0 _ _ _ hP hS (lv_sub hl [1, 2, 0] rfl)
          · replace hB := xo_if_t c_360 hB
            obtain ⟨v6, e_v6, hB⟩ := xo_nm_e hB
            refine lv_iinc (v := v6) (lv' := [(1, .int v6), (0, .ref (ad 0)), (2, .int w12_2)]) hx hb d_Mod_whole_40 hl (k := 1) rfl (by rw [e_v6]; rfl) (by decide) rfl (fun ls hl => ?_)
            clear e_v6
            obtain ⟨v7, e_v7, hB⟩ := xo_nm_e hB
            refine lv_iinc (v := v7) (lv' := [(2, .int v7), (1, .int v6), (0, .ref (ad 0))]) hx hb d_Mod_whole_43 hl (k := 2) rfl (by rw [e_v7]; rfl) (by decide) rfl (fun ls hl => ?_)
            clear e_v7
            refine lv_goto (tgt := 12) hx hb d_Mod_whole_46 (by decide) ?_
            have q9 := Option.some.inj hB
            subst q9
            exact ih _ _ _ (xo_elL hL) kx0 _ _ _ hP hS (lv_sub hl [2, 1, 0] rfl)
  obtain ⟨y12, hL12, hF⟩ := xo_ob hF
  refine lp12 1000000 (0 : Int32) (0 : Int32) y12 hL12 ?_ _ _ _ hP hS (lv_sub hl [2, 1, 0] rfl)
  intro o2 ey H locs ls hP hS hl
  subst ey
  refine lv_iload_n hx hb d_Mod_whole_49 rfl (lv_at hl 0 rfl) ?_
  obtain ⟨q8, q9⟩ := xo_s2 hF
  subst q8
  subst q9
  exact hret 50 _ _ _ d_Mod_whole_50 rfl hP hS
set_option maxHeartbeats 4000000 in
set_option maxRecDepth 100000 in
theorem c_Mod_points (l : Launch) (D : va_G) (cI cZ : ClassId) (ad : Nat → Nat) (A : Nat → Prop) (adK adV : Nat → Nat) (hDw : ∀ st : XS, va_D A (xw_M ad cI cZ st)) (x1 : Int32) (st : XS) (r9 : Int32) (st9 : XS) (hF : F_Mod_points x1 st = some (r9, st9)) : K_I l D cI cZ A adK adV (xw_M ad cI cZ) y_Mod_points b_Mod_points 2 (some .int) 3 79 [.ref (ad 0), .int x1] st r9 st9 := by
  refine xk_startI (by decide) .int rfl (Nat.le_of_ble_eq_true rfl) ?_
  intro p e s m args below meth c Q ls hx hb hml hown hts hK hE hP hS hl hret
  replace hown : s.vm.findClass R_Mod = some m.cls := hown
  replace hl : lv_has ls 2 [(0, .ref (ad 0)), (1, .int x1)] := hl
  unfold F_Mod_points at hF
  refine lv_iload_n hx hb d_Mod_points_0 rfl (lv_at hl 1 rfl) ?_
  refine lv_iconst (v := (0 : Int32)) hx hb d_Mod_points_1 (by decide) ?_
  refine lv_iconst (v := (2 : Int32)) hx hb d_Mod_points_2 (by decide) ?_
  obtain ⟨v1, h_v1, hF⟩ := xo_ob hF
  refine xk_goI (xk_runS (As := [.int x1, .int (0 : Int32), .int (2 : Int32)]) (rest := []) hx hb hml hown hts hK hE (fun _ h => h) hP hS ok_Mod_within st_Mod_within u_765 (c_Mod_within l D cI cZ ad A adK adV hDw x1 (0 : Int32) (2 : Int32) st v1 h_v1) (by decide) rfl hl.1 rfl (Nat.le_of_ble_eq_true rfl) d_Mod_points_3 ⟨Nat.le_refl _, Nat.le_refl _⟩) (fun _ h => h) hS (fun H locs hP hS => ?_)
  refine lv_if_ne (tgt := 16) hx hb d_Mod_points_6 (by decide) (fun c_361 => ?_) (fun c_361 => ?_)
  · replace hF := xo_if_f c_361 hF
    refine lv_aload_n hx hb d_Mod_points_16 rfl (lv_at hl 0 rfl) ?_
    refine lv_aload_n hx hb d_Mod_points_17 rfl (lv_at hl 0 rfl) ?_
    refine xk_get (C := R_Mod) (T := F_Mod) (N := 23) hx hb hts i_Mod hown hK hP 0 xw_M_at_0 rfl 0 (by decide) u_666 rfl d_Mod_points_18 ?_
    obtain ⟨t4, h_t4, hF⟩ := xo_ob hF
    refine xk_goV (xk_runV (As := [.int (st.1 0 0)]) (rest := []) hx hb hml hown hts hK hE (fun _ h => h) hP hS ok_Mod_lay in_Mod_lay u_828 (c_Mod_lay l D cI cZ ad A adK adV hDw (st.1 0 0) st t4 h_t4) (va_recv hK hP (ci := 4) (q0 := 0) rfl xw_M_at_0) (by decide) rfl hl.1 rfl (Nat.le_of_ble_eq_true rfl) d_Mod_points_21 ⟨Nat.le_refl _, Nat.le_refl _⟩) (fun _ h => h) hS (fun H locs hP hS => ?_)
    refine lv_iload_n hx hb d_Mod_points_24 rfl (lv_at hl 1 rfl) ?_
    refine lv_if_ne (tgt := 35) hx hb d_Mod_points_25 (by decide) (fun c_362 => ?_) (fun c_362 => ?_)
    · replace hF := xo_if_f c_362 hF
      refine lv_iload_n hx hb d_Mod_points_35 rfl (lv_at hl 1 rfl) ?_
      refine lv_iconst (v := (1 : Int32)) hx hb d_Mod_points_36 (by decide) ?_
      refine lv_icmp_ne (tgt := 47) hx hb d_Mod_points_37 (by decide) (fun c_363 => ?_) (fun c_363 => ?_)
      · replace hF := xo_if_f c_363 hF
        refine lv_aload_n hx hb d_Mod_points_47 rfl (lv_at hl 0 rfl) ?_
        refine xk_get (C := R_Mod) (T := F_Mod) (N := 23) hx hb hts i_Mod hown hK hP 0 xw_M_at_0 rfl 22 (by decide) u_688 rfl d_Mod_points_48 ?_
        obtain ⟨q8, q9⟩ := xo_s2 hF
        subst q8
        subst q9
        exact hret 51 _ _ _ d_Mod_points_51 rfl hP hS
      · replace hF := xo_if_t c_363 hF
        refine lv_aload_n hx hb d_Mod_points_40 rfl (lv_at hl 0 rfl) ?_
        refine xk_get (C := R_Mod) (T := F_Mod) (N := 23) hx hb hts i_Mod hown hK hP 0 xw_M_at_0 rfl 21 (by decide) u_687 rfl d_Mod_points_41 ?_
        refine lv_goto (tgt := 51) hx hb d_Mod_points_44 (by decide) ?_
        obtain ⟨q8, q9⟩ := xo_s2 hF
        subst q8
        subst q9
        exact hret 51 _ _ _ d_Mod_points_51 rfl hP hS
    · replace hF := xo_if_t c_362 hF
      refine lv_aload_n hx hb d_Mod_points_28 rfl (lv_at hl 0 rfl) ?_
      refine xk_get (C := R_Mod) (T := F_Mod) (N := 23) hx hb hts i_Mod hown hK hP 0 xw_M_at_0 rfl 20 (by decide) u_686 rfl d_Mod_points_29 ?_
      refine lv_goto (tgt := 51) hx hb d_Mod_points_32 (by decide) ?_
      obtain ⟨q8, q9⟩ := xo_s2 hF
      subst q8
      subst q9
      exact hret 51 _ _ _ d_Mod_points_51 rfl hP hS
  · replace hF := xo_if_t c_361 hF
    refine lv_aload_n hx hb d_Mod_points_9 rfl (lv_at hl 0 rfl) ?_
    refine lv_bipush (v := (-2 : Int32)) hx hb d_Mod_points_10 (by decide) ?_
    obtain ⟨v2, t3, h_v2, hF⟩ := xo_ob2 hF
    refine xk_goI (xk_runV (As := [.int (-2 : Int32)]) (rest := []) hx hb hml hown hts hK hE (fun _ h => h) hP hS ok_Mod_no in_Mod_no u_741 (c_Mod_no l D cI cZ ad A adK adV hDw (-2 : Int32) st v2 t3 h_v2) (va_recv hK hP (ci := 4) (q0 := 0) rfl xw_M_at_0) (by decide) rfl hl.1 rfl (Nat.le_of_ble_eq_true rfl) d_Mod_points_12 ⟨Nat.le_refl _, Nat.le_refl _⟩) (fun _ h => h) hS (fun H locs hP hS => ?_)
    obtain ⟨q8, q9⟩ := xo_s2 hF
    subst q8
    subst q9
    exact hret 15 _ _ _ d_Mod_points_15 rfl hP hS
set_option maxHeartbeats 4000000 in
set_option maxRecDepth 100000 in
theorem c_Mod_lamps (l : Launch) (D : va_G) (cI cZ : ClassId) (ad : Nat → Nat) (A : Nat → Prop) (adK adV : Nat → Nat) (hDw : ∀ st : XS, va_D A (xw_M ad cI cZ st)) (st : XS) (r9 : Int32) (hF : F_Mod_lamps  st = some r9) : K_I l D cI cZ A adK adV (xw_M ad cI cZ) y_Mod_lamps b_Mod_lamps 3 (some .int) 4 99 [.ref (ad 0)] st r9 st := by
  refine xk_startI (by decide) .int rfl (Nat.le_of_ble_eq_true rfl) ?_
  intro p e s m args below meth c Q ls hx hb hml hown hts hK hE hP hS hl hret
  replace hown : s.vm.findClass R_Mod = some m.cls := hown
  replace hl : lv_has ls 3 [(0, .ref (ad 0))] := hl
  unfold F_Mod_lamps at hF
  refine lv_iconst (v := (0 : Int32)) hx hb d_Mod_lamps_0 (by decide) ?_
  refine lv_istore_n (lv' := [(1, .int (0 : Int32)), (0, .ref (ad 0))]) hx hb d_Mod_lamps_1 rfl hl (by decide) rfl (fun ls hl => ?_)
  refine lv_iconst (v := (0 : Int32)) hx hb d_Mod_lamps_2 (by decide) ?_
  refine lv_istore_n (lv' := [(2, .int (0 : Int32)), (1, .int (0 : Int32)), (0, .ref (ad 0))]) hx hb d_Mod_lamps_3 rfl hl (by decide) rfl (fun ls hl => ?_)
  have lp4 : ∀ (n : Nat) (w4_1 : Int32) (w4_2 : Int32) (y : Int32), xo_lp (fun q : (Int32 × Int32) => F_Mod_lamps_b4 st q.1 q.2) n (w4_1, w4_2) = some y → (∀ (e1 : Int32), e1 = y → ∀ (H : Heap) (locs : List Loc) (ls : Array Slot), va_P D classes (xw_M ad cI cZ st) H → va_S A s.heap H locs → lv_has ls 3 [(1, .int e1)] → W p l e (xk_rm 4 99) s m args below meth c H locs 0 0 Q (F0 m 26 ls [])) → ∀ (H : Heap) (locs : List Loc) (ls : Array Slot), va_P D classes (xw_M ad cI cZ st) H → va_S A s.heap H locs → lv_has ls 3 [(0, .ref (ad 0)), (1, .int w4_1), (2, .int w4_2)] → W p l e (xk_rm 4 99) s m args below meth c H locs 0 0 Q (F0 m 4 ls []) := by
    intro n
    induction n with
    | zero =>
      intro w4_1 w4_2 y hL
      exact nomatch (show (none : Option _) = some y from hL)
    | succ n ih =>
      intro w4_1 w4_2 y hL kx0 H locs ls hP hS hl
      obtain ⟨z9, hB, hL⟩ := xo_lp_s hL
      replace hB : F_Mod_lamps_b4 st w4_1 w4_2 = some z9 := hB
      unfold F_Mod_lamps_b4 at hB
      refine lv_iload_n hx hb d_Mod_lamps_4 rfl (lv_at hl 2 rfl) ?_
      refine lv_aload_n hx hb d_Mod_lamps_5 rfl (lv_at hl 0 rfl) ?_
      refine xk_get (C := R_Mod) (T := F_Mod) (N := 23) hx hb hts i_Mod hown hK hP 0 xw_M_at_0 rfl 0 (by decide) u_666 rfl d_Mod_lamps_6 ?_
      refine lv_icmp_ge (tgt := 26) hx hb d_Mod_lamps_9 (by decide) (fun c_364 => ?_) (fun c_364 => ?_)
      · replace hB := xo_if_t c_364 hB
        have q9 := Option.some.inj hB
        subst q9
        replace hL := Option.some.inj (xo_elR hL)
        subst hL
        exact kx0 _ rfl _ _ _ hP hS (lv_sub hl [1] rfl)
      · replace hB := xo_if_f c_364 hB
        refine lv_iload_n hx hb d_Mod_lamps_12 rfl (lv_at hl 1 rfl) ?_
        refine lv_aload_n hx hb d_Mod_lamps_13 rfl (lv_at hl 0 rfl) ?_
        refine lv_iload_n hx hb d_Mod_lamps_14 rfl (lv_at hl 2 rfl) ?_
        obtain ⟨v2, h_v2, hB⟩ := xo_ob hB
        refine xk_goI (xk_runV (As := [.int w4_2]) (rest := [.int w4_1]) hx hb hml hown hts hK hE (fun _ h => h) hP hS ok_Mod_lampsOf in_Mod_lampsOf u_795 (c_Mod_lampsOf l D cI cZ ad A adK adV hDw w4_2 st v2 h_v2) (va_recv hK hP (ci := 4) (q0 := 0) rfl xw_M_at_0) (by decide) rfl hl.1 rfl (Nat.le_of_ble_eq_true rfl) d_Mod_lamps_15 ⟨Nat.le_refl _, Nat.le_refl _⟩) (fun _ h => h) hS (fun H locs hP hS => ?_)
        refine lv_iadd hx hb d_Mod_lamps_18 ?_
        refine lv_topi (fun v3 e_v3 => ?_)
        replace hB := xo_nm_u hB e_v3
        clear e_v3
        refine lv_istore_n (lv' := [(1, .int v3), (0, .ref (ad 0)), (2, .int w4_2)]) hx hb d_Mod_lamps_19 rfl hl (by decide) rfl (fun ls hl => ?_)
        obtain ⟨v4, e_v4, hB⟩ := xo_nm_e hB
        refine lv_iinc (v := v4) (lv' := [(2, .int v4), (1, .int v3), (0, .ref (ad 0))]) hx hb d_Mod_lamps_20 hl (k := 2) rfl (by rw [e_v4]; rfl) (by decide) rfl (fun ls hl => ?_)
        clear e_v4
        refine lv_goto (tgt := 4) hx hb d_Mod_lamps_23 (by decide) ?_
        have q9 := Option.some.inj hB
        subst q9
        exact ih _ _ _ (xo_elL hL) kx0 _ _ _ hP hS (lv_sub hl [2, 1, 0] rfl)
  obtain ⟨y4, hL4, hF⟩ := xo_ob hF
  refine lp4 1000000 (0 : Int32) (0 : Int32) y4 hL4 ?_ _ _ _ hP hS (lv_sub hl [2, 1, 0] rfl)
  intro o1 ey H locs ls hP hS hl
  subst ey
  refine lv_iload_n hx hb d_Mod_lamps_26 rfl (lv_at hl 0 rfl) ?_
  have q9 := Option.some.inj hF
  subst q9
  exact hret 27 _ _ _ d_Mod_lamps_27 rfl hP hS
set_option maxHeartbeats 4000000 in
set_option maxRecDepth 100000 in
theorem c_Mod_side (l : Launch) (D : va_G) (cI cZ : ClassId) (ad : Nat → Nat) (A : Nat → Prop) (adK adV : Nat → Nat) (hDw : ∀ st : XS, va_D A (xw_M ad cI cZ st)) (x1 : Int32) (x2 : Int32) (x3 : Int32) (st : XS) (r9 : Int32) (hF : F_Mod_side x1 x2 x3 st = some r9) : K_I l D cI cZ A adK adV (xw_M ad cI cZ) y_Mod_side b_Mod_side 5 (some .int) 0 0 [.ref (ad 0), .int x1, .int x2, .int x3] st r9 st := by
  refine xk_startI (by decide) .int rfl (Nat.le_of_ble_eq_true rfl) ?_
  intro p e s m args below meth c Q ls hx hb hml hown hts hK hE hP hS hl hret
  replace hown : s.vm.findClass R_Mod = some m.cls := hown
  replace hl : lv_has ls 5 [(0, .ref (ad 0)), (1, .int x1), (2, .int x2), (3, .int x3)] := hl
  unfold F_Mod_side at hF
  refine lv_aload_n hx hb d_Mod_side_0 rfl (lv_at hl 0 rfl) ?_
  refine xk_get (C := R_Mod) (T := F_Mod) (N := 23) hx hb hts i_Mod hown hK hP 0 xw_M_at_0 rfl 2 (by decide) u_668 rfl d_Mod_side_1 ?_
  refine lv_iload_n hx hb d_Mod_side_4 rfl (lv_at hl 1 rfl) ?_
  obtain ⟨v1, h_v1, hF⟩ := xo_ob hF
  refine xk_iald hx hb hK hP 2 xw_M_at_2 h_v1 d_Mod_side_5 ?_
  refine lv_iload_n hx hb d_Mod_side_6 rfl (lv_at hl 2 rfl) ?_
  refine lv_imul hx hb d_Mod_side_7 ?_
  refine lv_aload_n hx hb d_Mod_side_8 rfl (lv_at hl 0 rfl) ?_
  refine xk_get (C := R_Mod) (T := F_Mod) (N := 23) hx hb hts i_Mod hown hK hP 0 xw_M_at_0 rfl 3 (by decide) u_669 rfl d_Mod_side_9 ?_
  refine lv_iload_n hx hb d_Mod_side_12 rfl (lv_at hl 1 rfl) ?_
  obtain ⟨v2, h_v2, hF⟩ := xo_ob hF
  refine xk_iald hx hb hK hP 3 xw_M_at_3 h_v2 d_Mod_side_13 ?_
  refine lv_iload_n hx hb d_Mod_side_14 rfl (lv_at hl 3 rfl) ?_
  refine lv_imul hx hb d_Mod_side_15 ?_
  refine lv_iadd hx hb d_Mod_side_16 ?_
  refine lv_aload_n hx hb d_Mod_side_17 rfl (lv_at hl 0 rfl) ?_
  refine xk_get (C := R_Mod) (T := F_Mod) (N := 23) hx hb hts i_Mod hown hK hP 0 xw_M_at_0 rfl 4 (by decide) u_670 rfl d_Mod_side_18 ?_
  refine lv_iload_n hx hb d_Mod_side_21 rfl (lv_at hl 1 rfl) ?_
  obtain ⟨v3, h_v3, hF⟩ := xo_ob hF
  refine xk_iald hx hb hK hP 4 xw_M_at_4 h_v3 d_Mod_side_22 ?_
  refine lv_isub hx hb d_Mod_side_23 ?_
  refine lv_topi (fun v4 e_v4 => ?_)
  replace hF := xo_nm_u hF e_v4
  clear e_v4
  refine lv_istore (lv' := [(4, .int v4), (0, .ref (ad 0)), (1, .int x1), (2, .int x2), (3, .int x3)]) hx hb d_Mod_side_24 hl (by decide) rfl (fun ls hl => ?_)
  refine lv_iload hx hb d_Mod_side_26 (lv_at hl 0 rfl) ?_
  refine lv_if_le (tgt := 35) hx hb d_Mod_side_28 (by decide) (fun c_365 => ?_) (fun c_365 => ?_)
  · replace hF := xo_if_t c_365 hF
    refine lv_iload hx hb d_Mod_side_35 (lv_at hl 0 rfl) ?_
    refine lv_if_ge (tgt := 44) hx hb d_Mod_side_37 (by decide) (fun c_366 => ?_) (fun c_366 => ?_)
    · replace hF := xo_if_t c_366 hF
      refine lv_iconst (v := (0 : Int32)) hx hb d_Mod_side_44 (by decide) ?_
      have q9 := Option.some.inj hF
      subst q9
      exact hret 45 _ _ _ d_Mod_side_45 rfl hP hS
    · replace hF := xo_if_f c_366 hF
      refine lv_iconst (v := (-1 : Int32)) hx hb d_Mod_side_40 (by decide) ?_
      refine lv_goto (tgt := 45) hx hb d_Mod_side_41 (by decide) ?_
      have q9 := Option.some.inj hF
      subst q9
      exact hret 45 _ _ _ d_Mod_side_45 rfl hP hS
  · replace hF := xo_if_f c_365 hF
    refine lv_iconst (v := (1 : Int32)) hx hb d_Mod_side_31 (by decide) ?_
    refine lv_goto (tgt := 45) hx hb d_Mod_side_32 (by decide) ?_
    have q9 := Option.some.inj hF
    subst q9
    exact hret 45 _ _ _ d_Mod_side_45 rfl hP hS
set_option maxHeartbeats 4000000 in
set_option maxRecDepth 100000 in
theorem c_Mod_at (l : Launch) (D : va_G) (cI cZ : ClassId) (ad : Nat → Nat) (A : Nat → Prop) (adK adV : Nat → Nat) (hDw : ∀ st : XS, va_D A (xw_M ad cI cZ st)) (x1 : Int32) (x2 : Int32) (st : XS) (r9 : Int32) (hF : F_Mod_at x1 x2 st = some r9) : K_I l D cI cZ A adK adV (xw_M ad cI cZ) y_Mod_at b_Mod_at 6 (some .int) 1 24 [.ref (ad 0), .int x1, .int x2] st r9 st := by
  refine xk_startI (by decide) .int rfl (Nat.le_of_ble_eq_true rfl) ?_
  intro p e s m args below meth c Q ls hx hb hml hown hts hK hE hP hS hl hret
  replace hown : s.vm.findClass R_Mod = some m.cls := hown
  replace hl : lv_has ls 6 [(0, .ref (ad 0)), (1, .int x1), (2, .int x2)] := hl
  unfold F_Mod_at at hF
  refine lv_iconst (v := (0 : Int32)) hx hb d_Mod_at_0 (by decide) ?_
  refine lv_istore_n (lv' := [(3, .int (0 : Int32)), (0, .ref (ad 0)), (1, .int x1), (2, .int x2)]) hx hb d_Mod_at_1 rfl hl (by decide) rfl (fun ls hl => ?_)
  refine lv_iconst (v := (0 : Int32)) hx hb d_Mod_at_2 (by decide) ?_
  refine lv_istore (lv' := [(4, .int (0 : Int32)), (3, .int (0 : Int32)), (0, .ref (ad 0)), (1, .int x1), (2, .int x2)]) hx hb d_Mod_at_3 hl (by decide) rfl (fun ls hl => ?_)
  have lp5 : ∀ (n : Nat) (w5_3 : Int32) (w5_4 : Int32) (y : (Unit ⊕ Int32)), xo_lp (fun q : (Int32 × Int32) => F_Mod_at_b5 x1 x2 st q.1 q.2) n (w5_3, w5_4) = some y → ((.inl ()) = y → ∀ (H : Heap) (locs : List Loc) (ls : Array Slot), va_P D classes (xw_M ad cI cZ st) H → va_S A s.heap H locs → lv_has ls 6 [] → W p l e (xk_rm 1 24) s m args below meth c H locs 0 0 Q (F0 m 29 ls [])) → (∀ (e3 : Int32), (.inr e3) = y → ∀ (H : Heap) (locs : List Loc) (ls : Array Slot), va_P D classes (xw_M ad cI cZ st) H → va_S A s.heap H locs → lv_has ls 6 [(3, .int e3)] → W p l e (xk_rm 1 24) s m args below meth c H locs 0 0 Q (F0 m 50 ls [])) → ∀ (H : Heap) (locs : List Loc) (ls : Array Slot), va_P D classes (xw_M ad cI cZ st) H → va_S A s.heap H locs → lv_has ls 6 [(0, .ref (ad 0)), (1, .int x1), (2, .int x2), (3, .int w5_3), (4, .int w5_4)] → W p l e (xk_rm 1 24) s m args below meth c H locs 0 0 Q (F0 m 5 ls []) := by
    intro n
    induction n with
    | zero =>
      intro w5_3 w5_4 y hL
      exact nomatch (show (none : Option _) = some y from hL)
    | succ n ih =>
      intro w5_3 w5_4 y hL kx0 kx1 H locs ls hP hS hl
      obtain ⟨z9, hB, hL⟩ := xo_lp_s hL
      replace hB : F_Mod_at_b5 x1 x2 st w5_3 w5_4 = some z9 := hB
      unfold F_Mod_at_b5 at hB
      refine lv_iload hx hb d_Mod_at_5 (lv_at hl 4 rfl) ?_
      refine lv_aload_n hx hb d_Mod_at_7 rfl (lv_at hl 0 rfl) ?_
      refine xk_get (C := R_Mod) (T := F_Mod) (N := 23) hx hb hts i_Mod hown hK hP 0 xw_M_at_0 rfl 0 (by decide) u_666 rfl d_Mod_at_8 ?_
      refine lv_icmp_ge (tgt := 50) hx hb d_Mod_at_11 (by decide) (fun c_367 => ?_) (fun c_367 => ?_)
      · replace hB := xo_if_t c_367 hB
        have q9 := Option.some.inj hB
        subst q9
        replace hL := Option.some.inj (xo_elR hL)
        subst hL
        exact kx1 _ rfl _ _ _ hP hS (lv_sub hl [3] rfl)
      · replace hB := xo_if_f c_367 hB
        refine lv_aload_n hx hb d_Mod_at_14 rfl (lv_at hl 0 rfl) ?_
        refine lv_iload hx hb d_Mod_at_15 (lv_at hl 4 rfl) ?_
        refine lv_iload_n hx hb d_Mod_at_17 rfl (lv_at hl 1 rfl) ?_
        refine lv_iload_n hx hb d_Mod_at_18 rfl (lv_at hl 2 rfl) ?_
        obtain ⟨v2, h_v2, hB⟩ := xo_ob hB
        refine xk_goI (xk_runV (As := [.int w5_4, .int x1, .int x2]) (rest := []) hx hb hml hown hts hK hE (fun _ h => h) hP hS ok_Mod_side in_Mod_side u_901 (c_Mod_side l D cI cZ ad A adK adV hDw w5_4 x1 x2 st v2 h_v2) (va_recv hK hP (ci := 4) (q0 := 0) rfl xw_M_at_0) (by decide) rfl hl.1 rfl (Nat.le_of_ble_eq_true rfl) d_Mod_at_19 ⟨Nat.le_refl _, Nat.le_refl _⟩) (fun _ h => h) hS (fun H locs hP hS => ?_)
        refine lv_istore (lv' := [(5, .int v2), (0, .ref (ad 0)), (1, .int x1), (2, .int x2), (3, .int w5_3), (4, .int w5_4)]) hx hb d_Mod_at_22 hl (by decide) rfl (fun ls hl => ?_)
        refine lv_iload hx hb d_Mod_at_24 (lv_at hl 0 rfl) ?_
        refine lv_if_ne (tgt := 32) hx hb d_Mod_at_26 (by decide) (fun c_368 => ?_) (fun c_368 => ?_)
        · replace hB := xo_if_f c_368 hB
          refine lv_iload hx hb d_Mod_at_32 (lv_at hl 0 rfl) ?_
          refine lv_if_le (tgt := 44) hx hb d_Mod_at_34 (by decide) (fun c_369 => ?_) (fun c_369 => ?_)
          · replace hB := xo_if_t c_369 hB
            obtain ⟨v3, e_v3, hB⟩ := xo_nm_e hB
            refine lv_iinc (v := v3) (lv' := [(4, .int v3), (5, .int v2), (0, .ref (ad 0)), (1, .int x1), (2, .int x2), (3, .int w5_3)]) hx hb d_Mod_at_44 hl (k := 5) rfl (by rw [e_v3]; rfl) (by decide) rfl (fun ls hl => ?_)
            clear e_v3
            refine lv_goto (tgt := 5) hx hb d_Mod_at_47 (by decide) ?_
            have q9 := Option.some.inj hB
            subst q9
            exact ih _ _ _ (xo_elL hL) kx0 kx1 _ _ _ hP hS (lv_sub hl [2, 3, 4, 5, 0] rfl)
          · replace hB := xo_if_f c_369 hB
            refine lv_iload_n hx hb d_Mod_at_37 rfl (lv_at hl 4 rfl) ?_
            refine lv_iconst (v := (1 : Int32)) hx hb d_Mod_at_38 (by decide) ?_
            refine lv_iload hx hb d_Mod_at_39 (lv_at hl 5 rfl) ?_
            refine lv_ishl hx hb d_Mod_at_41 ?_
            refine lv_ior hx hb d_Mod_at_42 ?_
            refine lv_topi (fun v4 e_v4 => ?_)
            replace hB := xo_nm_u hB e_v4
            clear e_v4
            refine lv_istore_n (lv' := [(3, .int v4), (5, .int v2), (0, .ref (ad 0)), (1, .int x1), (2, .int x2), (4, .int w5_4)]) hx hb d_Mod_at_43 rfl hl (by decide) rfl (fun ls hl => ?_)
            obtain ⟨v5, e_v5, hB⟩ := xo_nm_e hB
            refine lv_iinc (v := v5) (lv' := [(4, .int v5), (3, .int v4), (5, .int v2), (0, .ref (ad 0)), (1, .int x1), (2, .int x2)]) hx hb d_Mod_at_44 hl (k := 5) rfl (by rw [e_v5]; rfl) (by decide) rfl (fun ls hl => ?_)
            clear e_v5
            refine lv_goto (tgt := 5) hx hb d_Mod_at_47 (by decide) ?_
            have q9 := Option.some.inj hB
            subst q9
            exact ih _ _ _ (xo_elL hL) kx0 kx1 _ _ _ hP hS (lv_sub hl [3, 4, 5, 1, 0] rfl)
        · replace hB := xo_if_t c_368 hB
          have q9 := Option.some.inj hB
          subst q9
          replace hL := Option.some.inj (xo_elR hL)
          subst hL
          exact kx0  rfl _ _ _ hP hS (lv_sub hl [] rfl)
  obtain ⟨y5, hL5, hF⟩ := xo_ob hF
  refine lp5 1000000 (0 : Int32) (0 : Int32) y5 hL5 ?_ ?_ _ _ _ hP hS (lv_sub hl [2, 3, 4, 1, 0] rfl)
  · intro  ey H locs ls hP hS hl
    subst ey
    replace hF := xo_elL hF
    refine lv_bipush (v := (-9 : Int32)) hx hb d_Mod_at_29 (by decide) ?_
    have q9 := Option.some.inj hF
    subst q9
    exact hret 31 _ _ _ d_Mod_at_31 rfl hP hS
  · intro o1 ey H locs ls hP hS hl
    subst ey
    replace hF := xo_elR hF
    refine lv_iload_n hx hb d_Mod_at_50 rfl (lv_at hl 0 rfl) ?_
    have q9 := Option.some.inj hF
    subst q9
    exact hret 51 _ _ _ d_Mod_at_51 rfl hP hS
set_option maxHeartbeats 4000000 in
set_option maxRecDepth 100000 in
theorem c_Mod_whereIs (l : Launch) (D : va_G) (cI cZ : ClassId) (ad : Nat → Nat) (A : Nat → Prop) (adK adV : Nat → Nat) (hDw : ∀ st : XS, va_D A (xw_M ad cI cZ st)) (x1 : Int32) (st : XS) (r9 : Int32) (hF : F_Mod_whereIs x1 st = some r9) : K_I l D cI cZ A adK adV (xw_M ad cI cZ) y_Mod_whereIs b_Mod_whereIs 2 (some .int) 2 49 [.ref (ad 0), .int x1] st r9 st := by
  refine xk_startI (by decide) .int rfl (Nat.le_of_ble_eq_true rfl) ?_
  intro p e s m args below meth c Q ls hx hb hml hown hts hK hE hP hS hl hret
  replace hown : s.vm.findClass R_Mod = some m.cls := hown
  replace hl : lv_has ls 2 [(0, .ref (ad 0)), (1, .int x1)] := hl
  unfold F_Mod_whereIs at hF
  refine lv_aload_n hx hb d_Mod_whereIs_0 rfl (lv_at hl 0 rfl) ?_
  refine lv_aload_n hx hb d_Mod_whereIs_1 rfl (lv_at hl 0 rfl) ?_
  refine xk_get (C := R_Mod) (T := F_Mod) (N := 23) hx hb hts i_Mod hown hK hP 0 xw_M_at_0 rfl 6 (by decide) u_672 rfl d_Mod_whereIs_2 ?_
  refine lv_iload_n hx hb d_Mod_whereIs_5 rfl (lv_at hl 1 rfl) ?_
  obtain ⟨v1, h_v1, hF⟩ := xo_ob hF
  refine xk_iald hx hb hK hP 5 xw_M_at_6 h_v1 d_Mod_whereIs_6 ?_
  refine lv_aload_n hx hb d_Mod_whereIs_7 rfl (lv_at hl 0 rfl) ?_
  refine xk_get (C := R_Mod) (T := F_Mod) (N := 23) hx hb hts i_Mod hown hK hP 0 xw_M_at_0 rfl 7 (by decide) u_673 rfl d_Mod_whereIs_8 ?_
  refine lv_iload_n hx hb d_Mod_whereIs_11 rfl (lv_at hl 1 rfl) ?_
  obtain ⟨v2, h_v2, hF⟩ := xo_ob hF
  refine xk_iald hx hb hK hP 6 xw_M_at_7 h_v2 d_Mod_whereIs_12 ?_
  obtain ⟨v3, h_v3, hF⟩ := xo_ob hF
  refine xk_goI (xk_runV (As := [.int v1, .int v2]) (rest := []) hx hb hml hown hts hK hE (fun _ h => h) hP hS ok_Mod_at in_Mod_at u_897 (c_Mod_at l D cI cZ ad A adK adV hDw v1 v2 st v3 h_v3) (va_recv hK hP (ci := 4) (q0 := 0) rfl xw_M_at_0) (by decide) rfl hl.1 rfl (Nat.le_of_ble_eq_true rfl) d_Mod_whereIs_13 ⟨Nat.le_refl _, Nat.le_refl _⟩) (fun _ h => h) hS (fun H locs hP hS => ?_)
  have q9 := Option.some.inj hF
  subst q9
  exact hret 16 _ _ _ d_Mod_whereIs_16 rfl hP hS
set_option maxHeartbeats 4000000 in
set_option maxRecDepth 100000 in
theorem c_Mod_where (l : Launch) (D : va_G) (cI cZ : ClassId) (ad : Nat → Nat) (A : Nat → Prop) (adK adV : Nat → Nat) (hDw : ∀ st : XS, va_D A (xw_M ad cI cZ st)) (x1 : Int32) (st : XS) (r9 : Int32) (st9 : XS) (hF : F_Mod_where x1 st = some (r9, st9)) : K_I l D cI cZ A adK adV (xw_M ad cI cZ) y_Mod_where b_Mod_where 2 (some .int) 3 70 [.ref (ad 0), .int x1] st r9 st9 := by
  refine xk_startI (by decide) .int rfl (Nat.le_of_ble_eq_true rfl) ?_
  intro p e s m args below meth c Q ls hx hb hml hown hts hK hE hP hS hl hret
  replace hown : s.vm.findClass R_Mod = some m.cls := hown
  replace hl : lv_has ls 2 [(0, .ref (ad 0)), (1, .int x1)] := hl
  unfold F_Mod_where at hF
  refine lv_aload_n hx hb d_Mod_where_0 rfl (lv_at hl 0 rfl) ?_
  refine lv_iload_n hx hb d_Mod_where_1 rfl (lv_at hl 1 rfl) ?_
  obtain ⟨v1, h_v1, hF⟩ := xo_ob hF
  refine xk_goI (xk_runV (As := [.int x1]) (rest := []) hx hb hml hown hts hK hE (fun _ h => h) hP hS ok_Mod_isPlot in_Mod_isPlot u_815 (c_Mod_isPlot l D cI cZ ad A adK adV hDw x1 st v1 h_v1) (va_recv hK hP (ci := 4) (q0 := 0) rfl xw_M_at_0) (by decide) rfl hl.1 rfl (Nat.le_of_ble_eq_true rfl) d_Mod_where_2 ⟨Nat.le_refl _, Nat.le_refl _⟩) (fun _ h => h) hS (fun H locs hP hS => ?_)
  refine lv_if_eq (tgt := 16) hx hb d_Mod_where_5 (by decide) (fun c_370 => ?_) (fun c_370 => ?_)
  · replace hF := xo_if_t c_370 hF
    refine lv_aload_n hx hb d_Mod_where_16 rfl (lv_at hl 0 rfl) ?_
    refine lv_iconst (v := (-1 : Int32)) hx hb d_Mod_where_17 (by decide) ?_
    obtain ⟨v2, t3, h_v2, hF⟩ := xo_ob2 hF
    refine xk_goI (xk_runV (As := [.int (-1 : Int32)]) (rest := []) hx hb hml hown hts hK hE (fun _ h => h) hP hS ok_Mod_no in_Mod_no u_741 (c_Mod_no l D cI cZ ad A adK adV hDw (-1 : Int32) st v2 t3 h_v2) (va_recv hK hP (ci := 4) (q0 := 0) rfl xw_M_at_0) (by decide) rfl hl.1 rfl (Nat.le_of_ble_eq_true rfl) d_Mod_where_18 ⟨Nat.le_refl _, Nat.le_refl _⟩) (fun _ h => h) hS (fun H locs hP hS => ?_)
    obtain ⟨q8, q9⟩ := xo_s2 hF
    subst q8
    subst q9
    exact hret 21 _ _ _ d_Mod_where_21 rfl hP hS
  · replace hF := xo_if_f c_370 hF
    refine lv_aload_n hx hb d_Mod_where_8 rfl (lv_at hl 0 rfl) ?_
    refine lv_iload_n hx hb d_Mod_where_9 rfl (lv_at hl 1 rfl) ?_
    obtain ⟨v4, h_v4, hF⟩ := xo_ob hF
    refine xk_goI (xk_runV (As := [.int x1]) (rest := []) hx hb hml hown hts hK hE (fun _ h => h) hP hS ok_Mod_whereIs in_Mod_whereIs u_893 (c_Mod_whereIs l D cI cZ ad A adK adV hDw x1 st v4 h_v4) (va_recv hK hP (ci := 4) (q0 := 0) rfl xw_M_at_0) (by decide) rfl hl.1 rfl (Nat.le_of_ble_eq_true rfl) d_Mod_where_10 ⟨Nat.le_refl _, Nat.le_refl _⟩) (fun _ h => h) hS (fun H locs hP hS => ?_)
    refine lv_goto (tgt := 21) hx hb d_Mod_where_13 (by decide) ?_
    obtain ⟨q8, q9⟩ := xo_s2 hF
    subst q8
    subst q9
    exact hret 21 _ _ _ d_Mod_where_21 rfl hP hS
set_option maxHeartbeats 4000000 in
set_option maxRecDepth 100000 in
theorem c_Mod_together (l : Launch) (D : va_G) (cI cZ : ClassId) (ad : Nat → Nat) (A : Nat → Prop) (adK adV : Nat → Nat) (hDw : ∀ st : XS, va_D A (xw_M ad cI cZ st)) (x1 : Int32) (st : XS) (r9 : Int32) (st9 : XS) (hF : F_Mod_together x1 st = some (r9, st9)) : K_I l D cI cZ A adK adV (xw_M ad cI cZ) y_Mod_together b_Mod_together 5 (some .int) 3 70 [.ref (ad 0), .int x1] st r9 st9 := by
  refine xk_startI (by decide) .int rfl (Nat.le_of_ble_eq_true rfl) ?_
  intro p e s m args below meth c Q ls hx hb hml hown hts hK hE hP hS hl hret
  replace hown : s.vm.findClass R_Mod = some m.cls := hown
  replace hl : lv_has ls 5 [(0, .ref (ad 0)), (1, .int x1)] := hl
  unfold F_Mod_together at hF
  refine lv_aload_n hx hb d_Mod_together_0 rfl (lv_at hl 0 rfl) ?_
  refine lv_iload_n hx hb d_Mod_together_1 rfl (lv_at hl 1 rfl) ?_
  obtain ⟨v1, h_v1, hF⟩ := xo_ob hF
  refine xk_goI (xk_runV (As := [.int x1]) (rest := []) hx hb hml hown hts hK hE (fun _ h => h) hP hS ok_Mod_isPlot in_Mod_isPlot u_815 (c_Mod_isPlot l D cI cZ ad A adK adV hDw x1 st v1 h_v1) (va_recv hK hP (ci := 4) (q0 := 0) rfl xw_M_at_0) (by decide) rfl hl.1 rfl (Nat.le_of_ble_eq_true rfl) d_Mod_together_2 ⟨Nat.le_refl _, Nat.le_refl _⟩) (fun _ h => h) hS (fun H locs hP hS => ?_)
  refine lv_if_ne (tgt := 14) hx hb d_Mod_together_5 (by decide) (fun c_371 => ?_) (fun c_371 => ?_)
  · replace hF := xo_if_f c_371 hF
    refine lv_aload_n hx hb d_Mod_together_14 rfl (lv_at hl 0 rfl) ?_
    refine lv_iload_n hx hb d_Mod_together_15 rfl (lv_at hl 1 rfl) ?_
    obtain ⟨v4, h_v4, hF⟩ := xo_ob hF
    refine xk_goI (xk_runV (As := [.int x1]) (rest := []) hx hb hml hown hts hK hE (fun _ h => h) hP hS ok_Mod_whereIs in_Mod_whereIs u_893 (c_Mod_whereIs l D cI cZ ad A adK adV hDw x1 st v4 h_v4) (va_recv hK hP (ci := 4) (q0 := 0) rfl xw_M_at_0) (by decide) rfl hl.1 rfl (Nat.le_of_ble_eq_true rfl) d_Mod_together_16 ⟨Nat.le_refl _, Nat.le_refl _⟩) (fun _ h => h) hS (fun H locs hP hS => ?_)
    refine lv_istore_n (lv' := [(2, .int v4), (0, .ref (ad 0)), (1, .int x1)]) hx hb d_Mod_together_19 rfl hl (by decide) rfl (fun ls hl => ?_)
    refine lv_iconst (v := (0 : Int32)) hx hb d_Mod_together_20 (by decide) ?_
    refine lv_istore_n (lv' := [(3, .int (0 : Int32)), (2, .int v4), (0, .ref (ad 0)), (1, .int x1)]) hx hb d_Mod_together_21 rfl hl (by decide) rfl (fun ls hl => ?_)
    refine lv_iconst (v := (0 : Int32)) hx hb d_Mod_together_22 (by decide) ?_
    refine lv_istore (lv' := [(4, .int (0 : Int32)), (3, .int (0 : Int32)), (2, .int v4), (0, .ref (ad 0)), (1, .int x1)]) hx hb d_Mod_together_23 hl (by decide) rfl (fun ls hl => ?_)
    have lp25 : ∀ (n : Nat) (w25_3 : Int32) (w25_4 : Int32) (y : Int32), xo_lp (fun q : (Int32 × Int32) => F_Mod_together_b25 v4 st q.1 q.2) n (w25_3, w25_4) = some y → (∀ (e3 : Int32), e3 = y → ∀ (H : Heap) (locs : List Loc) (ls : Array Slot), va_P D classes (xw_M ad cI cZ st) H → va_S A s.heap H locs → lv_has ls 5 [(3, .int e3)] → W p l e (xk_rm 3 70) s m args below meth c H locs 0 0 Q (F0 m 63 ls [])) → ∀ (H : Heap) (locs : List Loc) (ls : Array Slot), va_P D classes (xw_M ad cI cZ st) H → va_S A s.heap H locs → lv_has ls 5 [(0, .ref (ad 0)), (2, .int v4), (3, .int w25_3), (4, .int w25_4)] → W p l e (xk_rm 3 70) s m args below meth c H locs 0 0 Q (F0 m 25 ls []) := by
      intro n
      induction n with
      | zero =>
        intro w25_3 w25_4 y hL
        exact nomatch (show (none : Option _) = some y from hL)
      | succ n ih =>
        intro w25_3 w25_4 y hL kx0 H locs ls hP hS hl
        obtain ⟨z9, hB, hL⟩ := xo_lp_s hL
        replace hB : F_Mod_together_b25 v4 st w25_3 w25_4 = some z9 := hB
        unfold F_Mod_together_b25 at hB
        refine lv_iload hx hb d_Mod_together_25 (lv_at hl 3 rfl) ?_
        refine lv_aload_n hx hb d_Mod_together_27 rfl (lv_at hl 0 rfl) ?_
        refine xk_get (C := R_Mod) (T := F_Mod) (N := 23) hx hb hts i_Mod hown hK hP 0 xw_M_at_0 rfl 5 (by decide) u_671 rfl d_Mod_together_28 ?_
        refine lv_icmp_ge (tgt := 63) hx hb d_Mod_together_31 (by decide) (fun c_372 => ?_) (fun c_372 => ?_)
        · replace hB := xo_if_t c_372 hB
          have q9 := Option.some.inj hB
          subst q9
          replace hL := Option.some.inj (xo_elR hL)
          subst hL
          exact kx0 _ rfl _ _ _ hP hS (lv_sub hl [2] rfl)
        · replace hB := xo_if_f c_372 hB
          refine lv_iload_n hx hb d_Mod_together_34 rfl (lv_at hl 1 rfl) ?_
          refine lv_bipush (v := (-9 : Int32)) hx hb d_Mod_together_35 (by decide) ?_
          refine lv_icmp_eq (tgt := 63) hx hb d_Mod_together_37 (by decide) (fun c_373 => ?_) (fun c_373 => ?_)
          · replace hB := xo_if_t c_373 hB
            have q9 := Option.some.inj hB
            subst q9
            replace hL := Option.some.inj (xo_elR hL)
            subst hL
            exact kx0 _ rfl _ _ _ hP hS (lv_sub hl [2] rfl)
          · replace hB := xo_if_f c_373 hB
            refine lv_aload_n hx hb d_Mod_together_40 rfl (lv_at hl 0 rfl) ?_
            refine lv_iload hx hb d_Mod_together_41 (lv_at hl 3 rfl) ?_
            obtain ⟨v6, h_v6, hB⟩ := xo_ob hB
            refine xk_goI (xk_runV (As := [.int w25_4]) (rest := []) hx hb hml hown hts hK hE (fun _ h => h) hP hS ok_Mod_whereIs in_Mod_whereIs u_893 (c_Mod_whereIs l D cI cZ ad A adK adV hDw w25_4 st v6 h_v6) (va_recv hK hP (ci := 4) (q0 := 0) rfl xw_M_at_0) (by decide) rfl hl.1 rfl (Nat.le_of_ble_eq_true rfl) d_Mod_together_43 ⟨Nat.le_refl _, Nat.le_refl _⟩) (fun _ h => h) hS (fun H locs hP hS => ?_)
            refine lv_iload_n hx hb d_Mod_together_46 rfl (lv_at hl 1 rfl) ?_
            refine lv_icmp_ne (tgt := 57) hx hb d_Mod_together_47 (by decide) (fun c_374 => ?_) (fun c_374 => ?_)
            · replace hB := xo_if_f c_374 hB
              obtain ⟨v9, e_v9, hB⟩ := xo_nm_e hB
              refine lv_iinc (v := v9) (lv' := [(4, .int v9), (0, .ref (ad 0)), (2, .int v4), (3, .int w25_3)]) hx hb d_Mod_together_57 hl (k := 3) rfl (by rw [e_v9]; rfl) (by decide) rfl (fun ls hl => ?_)
              clear e_v9
              refine lv_goto (tgt := 25) hx hb d_Mod_together_60 (by decide) ?_
              have q9 := Option.some.inj hB
              subst q9
              exact ih _ _ _ (xo_elL hL) kx0 _ _ _ hP hS (lv_sub hl [1, 2, 3, 0] rfl)
            · replace hB := xo_if_t c_374 hB
              refine lv_iload_n hx hb d_Mod_together_50 rfl (lv_at hl 2 rfl) ?_
              refine lv_iconst (v := (1 : Int32)) hx hb d_Mod_together_51 (by decide) ?_
              refine lv_iload hx hb d_Mod_together_52 (lv_at hl 3 rfl) ?_
              refine lv_ishl hx hb d_Mod_together_54 ?_
              refine lv_ior hx hb d_Mod_together_55 ?_
              refine lv_topi (fun v7 e_v7 => ?_)
              replace hB := xo_nm_u hB e_v7
              clear e_v7
              refine lv_istore_n (lv' := [(3, .int v7), (0, .ref (ad 0)), (2, .int v4), (4, .int w25_4)]) hx hb d_Mod_together_56 rfl hl (by decide) rfl (fun ls hl => ?_)
              obtain ⟨v8, e_v8, hB⟩ := xo_nm_e hB
              refine lv_iinc (v := v8) (lv' := [(4, .int v8), (3, .int v7), (0, .ref (ad 0)), (2, .int v4)]) hx hb d_Mod_together_57 hl (k := 3) rfl (by rw [e_v8]; rfl) (by decide) rfl (fun ls hl => ?_)
              clear e_v8
              refine lv_goto (tgt := 25) hx hb d_Mod_together_60 (by decide) ?_
              have q9 := Option.some.inj hB
              subst q9
              exact ih _ _ _ (xo_elL hL) kx0 _ _ _ hP hS (lv_sub hl [2, 3, 1, 0] rfl)
    obtain ⟨y25, hL25, hF⟩ := xo_ob hF
    refine lp25 1000000 (0 : Int32) (0 : Int32) y25 hL25 ?_ _ _ _ hP hS (lv_sub hl [3, 2, 1, 0] rfl)
    intro o5 ey H locs ls hP hS hl
    subst ey
    refine lv_iload_n hx hb d_Mod_together_63 rfl (lv_at hl 0 rfl) ?_
    obtain ⟨q8, q9⟩ := xo_s2 hF
    subst q8
    subst q9
    exact hret 64 _ _ _ d_Mod_together_64 rfl hP hS
  · replace hF := xo_if_t c_371 hF
    refine lv_aload_n hx hb d_Mod_together_8 rfl (lv_at hl 0 rfl) ?_
    refine lv_iconst (v := (-1 : Int32)) hx hb d_Mod_together_9 (by decide) ?_
    obtain ⟨v2, t3, h_v2, hF⟩ := xo_ob2 hF
    refine xk_goI (xk_runV (As := [.int (-1 : Int32)]) (rest := []) hx hb hml hown hts hK hE (fun _ h => h) hP hS ok_Mod_no in_Mod_no u_741 (c_Mod_no l D cI cZ ad A adK adV hDw (-1 : Int32) st v2 t3 h_v2) (va_recv hK hP (ci := 4) (q0 := 0) rfl xw_M_at_0) (by decide) rfl hl.1 rfl (Nat.le_of_ble_eq_true rfl) d_Mod_together_10 ⟨Nat.le_refl _, Nat.le_refl _⟩) (fun _ h => h) hS (fun H locs hP hS => ?_)
    obtain ⟨q8, q9⟩ := xo_s2 hF
    subst q8
    subst q9
    exact hret 13 _ _ _ d_Mod_together_13 rfl hP hS
set_option maxHeartbeats 4000000 in
set_option maxRecDepth 100000 in
theorem c_Mod_steps (l : Launch) (D : va_G) (cI cZ : ClassId) (ad : Nat → Nat) (A : Nat → Prop) (adK adV : Nat → Nat) (hDw : ∀ st : XS, va_D A (xw_M ad cI cZ st)) (x1 : Int32) (x2 : Int32) (st : XS) (r9 : Int32) (st9 : XS) (hF : F_Mod_steps x1 x2 st = some (r9, st9)) : K_I l D cI cZ A adK adV (xw_M ad cI cZ) y_Mod_steps b_Mod_steps 5 (some .int) 3 70 [.ref (ad 0), .int x1, .int x2] st r9 st9 := by
  refine xk_startI (by decide) .int rfl (Nat.le_of_ble_eq_true rfl) ?_
  intro p e s m args below meth c Q ls hx hb hml hown hts hK hE hP hS hl hret
  replace hown : s.vm.findClass R_Mod = some m.cls := hown
  replace hl : lv_has ls 5 [(0, .ref (ad 0)), (1, .int x1), (2, .int x2)] := hl
  unfold F_Mod_steps at hF
  have mg16 : ∀ (xs : XS), F_Mod_steps_m16 xs = some (r9, st9) → ∀ (H : Heap) (locs : List Loc) (ls : Array Slot), va_P D classes (xw_M ad cI cZ xs) H → va_S A s.heap H locs → lv_has ls 5 [(0, .ref (ad 0))] → W p l e (xk_rm 3 70) s m args below meth c H locs 0 0 Q (F0 m 16 ls []) := by
    intro xs hF H locs ls hP hS hl
    unfold F_Mod_steps_m16 at hF
    refine lv_aload_n hx hb d_Mod_steps_16 rfl (lv_at hl 0 rfl) ?_
    refine lv_iconst (v := (-1 : Int32)) hx hb d_Mod_steps_17 (by decide) ?_
    obtain ⟨v1, t2, h_v1, hF⟩ := xo_ob2 hF
    refine xk_goI (xk_runV (As := [.int (-1 : Int32)]) (rest := []) hx hb hml hown hts hK hE (fun _ h => h) hP hS ok_Mod_no in_Mod_no u_741 (c_Mod_no l D cI cZ ad A adK adV hDw (-1 : Int32) xs v1 t2 h_v1) (va_recv hK hP (ci := 4) (q0 := 0) rfl xw_M_at_0) (by decide) rfl hl.1 rfl (Nat.le_of_ble_eq_true rfl) d_Mod_steps_18 ⟨Nat.le_refl _, Nat.le_refl _⟩) (fun _ h => h) hS (fun H locs hP hS => ?_)
    obtain ⟨q8, q9⟩ := xo_s2 hF
    subst q8
    subst q9
    exact hret 21 _ _ _ d_Mod_steps_21 rfl hP hS
  refine lv_aload_n hx hb d_Mod_steps_0 rfl (lv_at hl 0 rfl) ?_
  refine lv_iload_n hx hb d_Mod_steps_1 rfl (lv_at hl 1 rfl) ?_
  obtain ⟨v3, h_v3, hF⟩ := xo_ob hF
  refine xk_goI (xk_runV (As := [.int x1]) (rest := []) hx hb hml hown hts hK hE (fun _ h => h) hP hS ok_Mod_isPlot in_Mod_isPlot u_815 (c_Mod_isPlot l D cI cZ ad A adK adV hDw x1 st v3 h_v3) (va_recv hK hP (ci := 4) (q0 := 0) rfl xw_M_at_0) (by decide) rfl hl.1 rfl (Nat.le_of_ble_eq_true rfl) d_Mod_steps_2 ⟨Nat.le_refl _, Nat.le_refl _⟩) (fun _ h => h) hS (fun H locs hP hS => ?_)
  refine lv_if_eq (tgt := 16) hx hb d_Mod_steps_5 (by decide) (fun c_375 => ?_) (fun c_375 => ?_)
  · replace hF := xo_if_t c_375 hF
    exact mg16 _ hF _ _ _ hP hS (lv_sub hl [0] rfl)
  · replace hF := xo_if_f c_375 hF
    refine lv_aload_n hx hb d_Mod_steps_8 rfl (lv_at hl 0 rfl) ?_
    refine lv_iload_n hx hb d_Mod_steps_9 rfl (lv_at hl 2 rfl) ?_
    obtain ⟨v4, h_v4, hF⟩ := xo_ob hF
    refine xk_goI (xk_runV (As := [.int x2]) (rest := []) hx hb hml hown hts hK hE (fun _ h => h) hP hS ok_Mod_isPlot in_Mod_isPlot u_815 (c_Mod_isPlot l D cI cZ ad A adK adV hDw x2 st v4 h_v4) (va_recv hK hP (ci := 4) (q0 := 0) rfl xw_M_at_0) (by decide) rfl hl.1 rfl (Nat.le_of_ble_eq_true rfl) d_Mod_steps_10 ⟨Nat.le_refl _, Nat.le_refl _⟩) (fun _ h => h) hS (fun H locs hP hS => ?_)
    refine lv_if_ne (tgt := 22) hx hb d_Mod_steps_13 (by decide) (fun c_376 => ?_) (fun c_376 => ?_)
    · replace hF := xo_if_f c_376 hF
      refine lv_aload_n hx hb d_Mod_steps_22 rfl (lv_at hl 0 rfl) ?_
      refine lv_iload_n hx hb d_Mod_steps_23 rfl (lv_at hl 1 rfl) ?_
      obtain ⟨v5, h_v5, hF⟩ := xo_ob hF
      refine xk_goI (xk_runV (As := [.int x1]) (rest := []) hx hb hml hown hts hK hE (fun _ h => h) hP hS ok_Mod_whereIs in_Mod_whereIs u_893 (c_Mod_whereIs l D cI cZ ad A adK adV hDw x1 st v5 h_v5) (va_recv hK hP (ci := 4) (q0 := 0) rfl xw_M_at_0) (by decide) rfl hl.1 rfl (Nat.le_of_ble_eq_true rfl) d_Mod_steps_24 ⟨Nat.le_refl _, Nat.le_refl _⟩) (fun _ h => h) hS (fun H locs hP hS => ?_)
      refine lv_istore_n (lv' := [(3, .int v5), (0, .ref (ad 0)), (1, .int x1), (2, .int x2)]) hx hb d_Mod_steps_27 rfl hl (by decide) rfl (fun ls hl => ?_)
      refine lv_aload_n hx hb d_Mod_steps_28 rfl (lv_at hl 1 rfl) ?_
      refine lv_iload_n hx hb d_Mod_steps_29 rfl (lv_at hl 3 rfl) ?_
      obtain ⟨v6, h_v6, hF⟩ := xo_ob hF
      refine xk_goI (xk_runV (As := [.int x2]) (rest := []) hx hb hml hown hts hK hE (fun _ h => h) hP hS ok_Mod_whereIs in_Mod_whereIs u_893 (c_Mod_whereIs l D cI cZ ad A adK adV hDw x2 st v6 h_v6) (va_recv hK hP (ci := 4) (q0 := 0) rfl xw_M_at_0) (by decide) rfl hl.1 rfl (Nat.le_of_ble_eq_true rfl) d_Mod_steps_30 ⟨Nat.le_refl _, Nat.le_refl _⟩) (fun _ h => h) hS (fun H locs hP hS => ?_)
      refine lv_istore (lv' := [(4, .int v6), (3, .int v5), (0, .ref (ad 0)), (1, .int x1), (2, .int x2)]) hx hb d_Mod_steps_33 hl (by decide) rfl (fun ls hl => ?_)
      refine lv_iload_n hx hb d_Mod_steps_35 rfl (lv_at hl 1 rfl) ?_
      refine lv_bipush (v := (-9 : Int32)) hx hb d_Mod_steps_36 (by decide) ?_
      refine lv_icmp_eq (tgt := 48) hx hb d_Mod_steps_38 (by decide) (fun c_377 => ?_) (fun c_377 => ?_)
      · replace hF := xo_if_t c_377 hF
        refine lv_bipush (v := (-9 : Int32)) hx hb d_Mod_steps_48 (by decide) ?_
        refine lv_goto (tgt := 60) hx hb d_Mod_steps_50 (by decide) ?_
        obtain ⟨q8, q9⟩ := xo_s2 hF
        subst q8
        subst q9
        exact hret 60 _ _ _ d_Mod_steps_60 rfl hP hS
      · replace hF := xo_if_f c_377 hF
        refine lv_iload hx hb d_Mod_steps_41 (lv_at hl 0 rfl) ?_
        refine lv_bipush (v := (-9 : Int32)) hx hb d_Mod_steps_43 (by decide) ?_
        refine lv_icmp_ne (tgt := 53) hx hb d_Mod_steps_45 (by decide) (fun c_378 => ?_) (fun c_378 => ?_)
        · replace hF := xo_if_f c_378 hF
          refine lv_iload_n hx hb d_Mod_steps_53 rfl (lv_at hl 1 rfl) ?_
          refine lv_iload hx hb d_Mod_steps_54 (lv_at hl 0 rfl) ?_
          refine lv_ixor hx hb d_Mod_steps_56 ?_
          obtain ⟨v7, h_v7, hF⟩ := xo_ob hF
          refine xk_goI (xk_runS (As := [.int (v5 ^^^ v6)]) (rest := []) hx hb hml hown hts hK hE (fun _ h => h) hP hS ok_Int_bitCount st_Int_bitCount u_836 (c_Int_bitCount l D cI cZ (xw_M ad cI cZ) A adK adV (v5 ^^^ v6) st v7 h_v7) (by decide) rfl hl.1 rfl (Nat.le_of_ble_eq_true rfl) d_Mod_steps_57 ⟨Nat.le_refl _, Nat.le_refl _⟩) (fun _ h => h) hS (fun H locs hP hS => ?_)
          obtain ⟨q8, q9⟩ := xo_s2 hF
          subst q8
          subst q9
          exact hret 60 _ _ _ d_Mod_steps_60 rfl hP hS
        · replace hF := xo_if_t c_378 hF
          refine lv_bipush (v := (-9 : Int32)) hx hb d_Mod_steps_48 (by decide) ?_
          refine lv_goto (tgt := 60) hx hb d_Mod_steps_50 (by decide) ?_
          obtain ⟨q8, q9⟩ := xo_s2 hF
          subst q8
          subst q9
          exact hret 60 _ _ _ d_Mod_steps_60 rfl hP hS
    · replace hF := xo_if_t c_376 hF
      exact mg16 _ hF _ _ _ hP hS (lv_sub hl [0] rfl)
set_option maxHeartbeats 4000000 in
set_option maxRecDepth 100000 in
theorem c_Mod_think (l : Launch) (D : va_G) (cI cZ : ClassId) (ad : Nat → Nat) (A : Nat → Prop) (adK adV : Nat → Nat) (hDw : ∀ st : XS, va_D A (xw_M ad cI cZ st)) (x1 : Int32) (x2 : Int32) (x3 : Int32) (st : XS) (st9 : XS) (hF : F_Mod_think x1 x2 x3 st = some st9) : K_V l D cI cZ A adK adV (xw_M ad cI cZ) y_Mod_think b_Mod_think 4 none 0 0 [.ref (ad 0), .int x1, .int x2, .int x3] st st9 := by
  refine xk_startV (by decide) rfl (Nat.le_of_ble_eq_true rfl) ?_
  intro p e s m args below meth c Q ls hx hb hml hown hts hK hE hP hS hl hret
  replace hown : s.vm.findClass R_Mod = some m.cls := hown
  replace hl : lv_has ls 4 [(0, .ref (ad 0)), (1, .int x1), (2, .int x2), (3, .int x3)] := hl
  unfold F_Mod_think at hF
  refine lv_aload_n hx hb d_Mod_think_0 rfl (lv_at hl 0 rfl) ?_
  refine xk_get (C := R_Mod) (T := F_Mod) (N := 23) hx hb hts i_Mod hown hK hP 0 xw_M_at_0 rfl 2 (by decide) u_668 rfl d_Mod_think_1 ?_
  refine lv_aload_n hx hb d_Mod_think_4 rfl (lv_at hl 0 rfl) ?_
  refine xk_get (C := R_Mod) (T := F_Mod) (N := 23) hx hb hts i_Mod hown hK hP 0 xw_M_at_0 rfl 0 (by decide) u_666 rfl d_Mod_think_5 ?_
  refine lv_iload_n hx hb d_Mod_think_8 rfl (lv_at hl 1 rfl) ?_
  obtain ⟨_, h_t1, hF⟩ := xo_ob hF
  obtain ⟨t1, e_t1, hF⟩ := xo_nm_e hF
  refine xk_iast hx hb hK hP (hDw _) hS 2 xw_M_at_2 h_t1 (xw_M_set_2 _) d_Mod_think_9 (fun H locs hP hS => ?_)
  replace hP : va_P D classes (xw_M ad cI cZ t1) H := by rw [e_t1]; exact hP
  clear e_t1
  refine lv_aload_n hx hb d_Mod_think_10 rfl (lv_at hl 0 rfl) ?_
  refine xk_get (C := R_Mod) (T := F_Mod) (N := 23) hx hb hts i_Mod hown hK hP 0 xw_M_at_0 rfl 3 (by decide) u_669 rfl d_Mod_think_11 ?_
  refine lv_aload_n hx hb d_Mod_think_14 rfl (lv_at hl 0 rfl) ?_
  refine xk_get (C := R_Mod) (T := F_Mod) (N := 23) hx hb hts i_Mod hown hK hP 0 xw_M_at_0 rfl 0 (by decide) u_666 rfl d_Mod_think_15 ?_
  refine lv_iload_n hx hb d_Mod_think_18 rfl (lv_at hl 2 rfl) ?_
  obtain ⟨_, h_t2, hF⟩ := xo_ob hF
  obtain ⟨t2, e_t2, hF⟩ := xo_nm_e hF
  refine xk_iast hx hb hK hP (hDw _) hS 3 xw_M_at_3 h_t2 (xw_M_set_3 _) d_Mod_think_19 (fun H locs hP hS => ?_)
  replace hP : va_P D classes (xw_M ad cI cZ t2) H := by rw [e_t2]; exact hP
  clear e_t2
  refine lv_aload_n hx hb d_Mod_think_20 rfl (lv_at hl 0 rfl) ?_
  refine xk_get (C := R_Mod) (T := F_Mod) (N := 23) hx hb hts i_Mod hown hK hP 0 xw_M_at_0 rfl 4 (by decide) u_670 rfl d_Mod_think_21 ?_
  refine lv_aload_n hx hb d_Mod_think_24 rfl (lv_at hl 0 rfl) ?_
  refine xk_get (C := R_Mod) (T := F_Mod) (N := 23) hx hb hts i_Mod hown hK hP 0 xw_M_at_0 rfl 0 (by decide) u_666 rfl d_Mod_think_25 ?_
  refine lv_iload_n hx hb d_Mod_think_28 rfl (lv_at hl 3 rfl) ?_
  obtain ⟨_, h_t3, hF⟩ := xo_ob hF
  obtain ⟨t3, e_t3, hF⟩ := xo_nm_e hF
  refine xk_iast hx hb hK hP (hDw _) hS 4 xw_M_at_4 h_t3 (xw_M_set_4 _) d_Mod_think_29 (fun H locs hP hS => ?_)
  replace hP : va_P D classes (xw_M ad cI cZ t3) H := by rw [e_t3]; exact hP
  clear e_t3
  have q9 := Option.some.inj hF
  subst q9
  exact hret 30 _ _ _ d_Mod_think_30 hP hS
set_option maxHeartbeats 4000000 in
set_option maxRecDepth 100000 in
theorem c_Mod_cuts (l : Launch) (D : va_G) (cI cZ : ClassId) (ad : Nat → Nat) (A : Nat → Prop) (adK adV : Nat → Nat) (hDw : ∀ st : XS, va_D A (xw_M ad cI cZ st)) (x1 : Int32) (st : XS) (r9 : Int32) (hF : F_Mod_cuts x1 st = some r9) : K_I l D cI cZ A adK adV (xw_M ad cI cZ) y_Mod_cuts b_Mod_cuts 2 (some .boolean) 0 0 [.ref (ad 0), .int x1] st r9 st := by
  refine xk_startI (by decide) .boolean rfl (Nat.le_of_ble_eq_true rfl) ?_
  intro p e s m args below meth c Q ls hx hb hml hown hts hK hE hP hS hl hret
  replace hown : s.vm.findClass R_Mod = some m.cls := hown
  replace hl : lv_has ls 2 [(0, .ref (ad 0)), (1, .int x1)] := hl
  unfold F_Mod_cuts at hF
  refine lv_aload_n hx hb d_Mod_cuts_0 rfl (lv_at hl 0 rfl) ?_
  refine xk_get (C := R_Mod) (T := F_Mod) (N := 23) hx hb hts i_Mod hown hK hP 0 xw_M_at_0 rfl 18 (by decide) u_684 rfl d_Mod_cuts_1 ?_
  refine lv_iload_n hx hb d_Mod_cuts_4 rfl (lv_at hl 1 rfl) ?_
  obtain ⟨v1, h_v1, hF⟩ := xo_ob hF
  refine xk_iald hx hb hK hP 13 xw_M_at_18 h_v1 d_Mod_cuts_5 ?_
  refine lv_if_le (tgt := 29) hx hb d_Mod_cuts_6 (by decide) (fun c_379 => ?_) (fun c_379 => ?_)
  · replace hF := xo_if_t c_379 hF
    refine lv_iconst (v := (0 : Int32)) hx hb d_Mod_cuts_29 (by decide) ?_
    have q9 := Option.some.inj hF
    subst q9
    exact hret 30 _ _ _ d_Mod_cuts_30 rfl hP hS
  · replace hF := xo_if_f c_379 hF
    refine lv_aload_n hx hb d_Mod_cuts_9 rfl (lv_at hl 0 rfl) ?_
    refine xk_get (C := R_Mod) (T := F_Mod) (N := 23) hx hb hts i_Mod hown hK hP 0 xw_M_at_0 rfl 18 (by decide) u_684 rfl d_Mod_cuts_10 ?_
    refine lv_iload_n hx hb d_Mod_cuts_13 rfl (lv_at hl 1 rfl) ?_
    refine lv_iconst (v := (1 : Int32)) hx hb d_Mod_cuts_14 (by decide) ?_
    refine lv_aload_n hx hb d_Mod_cuts_15 rfl (lv_at hl 0 rfl) ?_
    refine xk_get (C := R_Mod) (T := F_Mod) (N := 23) hx hb hts i_Mod hown hK hP 0 xw_M_at_0 rfl 0 (by decide) u_666 rfl d_Mod_cuts_16 ?_
    refine lv_ishl hx hb d_Mod_cuts_19 ?_
    refine lv_ior hx hb d_Mod_cuts_20 ?_
    obtain ⟨v2, h_v2, hF⟩ := xo_ob hF
    refine xk_iald hx hb hK hP 13 xw_M_at_18 h_v2 d_Mod_cuts_21 ?_
    refine lv_if_le (tgt := 29) hx hb d_Mod_cuts_22 (by decide) (fun c_380 => ?_) (fun c_380 => ?_)
    · replace hF := xo_if_t c_380 hF
      refine lv_iconst (v := (0 : Int32)) hx hb d_Mod_cuts_29 (by decide) ?_
      have q9 := Option.some.inj hF
      subst q9
      exact hret 30 _ _ _ d_Mod_cuts_30 rfl hP hS
    · replace hF := xo_if_f c_380 hF
      refine lv_iconst (v := (1 : Int32)) hx hb d_Mod_cuts_25 (by decide) ?_
      refine lv_goto (tgt := 30) hx hb d_Mod_cuts_26 (by decide) ?_
      have q9 := Option.some.inj hF
      subst q9
      exact hret 30 _ _ _ d_Mod_cuts_30 rfl hP hS
set_option maxHeartbeats 4000000 in
set_option maxRecDepth 100000 in
theorem c_Mod_next (l : Launch) (D : va_G) (cI cZ : ClassId) (ad : Nat → Nat) (A : Nat → Prop) (adK adV : Nat → Nat) (hDw : ∀ st : XS, va_D A (xw_M ad cI cZ st)) (x1 : Int32) (x2 : Int32) (x3 : Int32) (x4 : Int32) (st : XS) (r9 : Int32) (st9 : XS) (hF : F_Mod_next x1 x2 x3 x4 st = some (r9, st9)) : K_I l D cI cZ A adK adV (xw_M ad cI cZ) y_Mod_next b_Mod_next 7 (some .int) 3 79 [.ref (ad 0), .int x1, .int x2, .int x3, .int x4] st r9 st9 := by
  refine xk_startI (by decide) .int rfl (Nat.le_of_ble_eq_true rfl) ?_
  intro p e s m args below meth c Q ls hx hb hml hown hts hK hE hP hS hl hret
  replace hown : s.vm.findClass R_Mod = some m.cls := hown
  replace hl : lv_has ls 7 [(0, .ref (ad 0)), (1, .int x1), (2, .int x2), (3, .int x3), (4, .int x4)] := hl
  unfold F_Mod_next at hF
  have mg92 : ∀ (xs : XS), F_Mod_next_m92 xs = some (r9, st9) → ∀ (H : Heap) (locs : List Loc) (ls : Array Slot), va_P D classes (xw_M ad cI cZ xs) H → va_S A s.heap H locs → lv_has ls 7 [(0, .ref (ad 0))] → W p l e (xk_rm 3 79) s m args below meth c H locs 0 0 Q (F0 m 92 ls []) := by
    intro xs hF H locs ls hP hS hl
    unfold F_Mod_next_m92 at hF
    refine lv_aload_n hx hb d_Mod_next_92 rfl (lv_at hl 0 rfl) ?_
    refine lv_bipush (v := (-3 : Int32)) hx hb d_Mod_next_93 (by decide) ?_
    obtain ⟨v1, t2, h_v1, hF⟩ := xo_ob2 hF
    refine xk_goI (xk_runV (As := [.int (-3 : Int32)]) (rest := []) hx hb hml hown hts hK hE (fun _ h => h) hP hS ok_Mod_no in_Mod_no u_741 (c_Mod_no l D cI cZ ad A adK adV hDw (-3 : Int32) xs v1 t2 h_v1) (va_recv hK hP (ci := 4) (q0 := 0) rfl xw_M_at_0) (by decide) rfl hl.1 rfl (Nat.le_of_ble_eq_true rfl) d_Mod_next_95 ⟨Nat.le_refl _, Nat.le_refl _⟩) (fun _ h => h) hS (fun H locs hP hS => ?_)
    obtain ⟨q8, q9⟩ := xo_s2 hF
    subst q8
    subst q9
    exact hret 98 _ _ _ d_Mod_next_98 rfl hP hS
  have mg79 : ∀ (x1 : Int32) (x2 : Int32) (x3 : Int32) (x4 : Int32) (xs : XS), F_Mod_next_m79 x1 x2 x3 x4 xs = some (r9, st9) → ∀ (H : Heap) (locs : List Loc) (ls : Array Slot), va_P D classes (xw_M ad cI cZ xs) H → va_S A s.heap H locs → lv_has ls 7 [(0, .ref (ad 0)), (1, .int x1), (2, .int x2), (3, .int x3), (4, .int x4)] → W p l e (xk_rm 3 79) s m args below meth c H locs 0 0 Q (F0 m 79 ls []) := by
    intro x1 x2 x3 x4 xs hF H locs ls hP hS hl
    unfold F_Mod_next_m79 at hF
    refine lv_aload_n hx hb d_Mod_next_79 rfl (lv_at hl 0 rfl) ?_
    refine lv_iload_n hx hb d_Mod_next_80 rfl (lv_at hl 1 rfl) ?_
    refine lv_iload_n hx hb d_Mod_next_81 rfl (lv_at hl 2 rfl) ?_
    refine lv_aload_n hx hb d_Mod_next_82 rfl (lv_at hl 0 rfl) ?_
    refine xk_get (C := R_Mod) (T := F_Mod) (N := 23) hx hb hts i_Mod hown hK hP 0 xw_M_at_0 rfl 0 (by decide) u_666 rfl d_Mod_next_83 ?_
    obtain ⟨v3, h_v3, hF⟩ := xo_ob hF
    refine xk_goI (xk_runV (As := [.int x1, .int x2, .int (xs.1 0 0)]) (rest := []) hx hb hml hown hts hK hE (fun _ h => h) hP hS ok_Mod_isDirection in_Mod_isDirection u_770 (c_Mod_isDirection l D cI cZ ad A adK adV hDw x1 x2 (xs.1 0 0) xs v3 h_v3) (va_recv hK hP (ci := 4) (q0 := 0) rfl xw_M_at_0) (by decide) rfl hl.1 rfl (Nat.le_of_ble_eq_true rfl) d_Mod_next_86 ⟨Nat.le_refl _, Nat.le_refl _⟩) (fun _ h => h) hS (fun H locs hP hS => ?_)
    refine lv_if_eq (tgt := 99) hx hb d_Mod_next_89 (by decide) (fun c_381 => ?_) (fun c_381 => ?_)
    · replace hF := xo_if_t c_381 hF
      refine lv_aload_n hx hb d_Mod_next_99 rfl (lv_at hl 0 rfl) ?_
      refine lv_iload_n hx hb d_Mod_next_100 rfl (lv_at hl 1 rfl) ?_
      refine lv_iload_n hx hb d_Mod_next_101 rfl (lv_at hl 2 rfl) ?_
      refine lv_iload_n hx hb d_Mod_next_102 rfl (lv_at hl 3 rfl) ?_
      obtain ⟨t4, h_t4, hF⟩ := xo_ob hF
      refine xk_goV (xk_runV (As := [.int x1, .int x2, .int x3]) (rest := []) hx hb hml hown hts hK hE (fun _ h => h) hP hS ok_Mod_think in_Mod_think u_917 (c_Mod_think l D cI cZ ad A adK adV hDw x1 x2 x3 xs t4 h_t4) (va_recv hK hP (ci := 4) (q0 := 0) rfl xw_M_at_0) (by decide) rfl hl.1 rfl (Nat.le_of_ble_eq_true rfl) d_Mod_next_103 ⟨Nat.le_refl _, Nat.le_refl _⟩) (fun _ h => h) hS (fun H locs hP hS => ?_)
      refine lv_aload_n hx hb d_Mod_next_106 rfl (lv_at hl 0 rfl) ?_
      refine lv_aload_n hx hb d_Mod_next_107 rfl (lv_at hl 0 rfl) ?_
      refine xk_get (C := R_Mod) (T := F_Mod) (N := 23) hx hb hts i_Mod hown hK hP 0 xw_M_at_0 rfl 0 (by decide) u_666 rfl d_Mod_next_108 ?_
      refine lv_iconst (v := (1 : Int32)) hx hb d_Mod_next_111 (by decide) ?_
      refine lv_iadd hx hb d_Mod_next_112 ?_
      obtain ⟨t5, h_t5, hF⟩ := xo_ob hF
      refine xk_goV (xk_runV (As := [.int ((t4.1 0 0) + (1 : Int32))]) (rest := []) hx hb hml hown hts hK hE (fun _ h => h) hP hS ok_Mod_lay in_Mod_lay u_828 (c_Mod_lay l D cI cZ ad A adK adV hDw ((t4.1 0 0) + (1 : Int32)) t4 t5 h_t5) (va_recv hK hP (ci := 4) (q0 := 0) rfl xw_M_at_0) (by decide) rfl hl.1 rfl (Nat.le_of_ble_eq_true rfl) d_Mod_next_113 ⟨Nat.le_refl _, Nat.le_refl _⟩) (fun _ h => h) hS (fun H locs hP hS => ?_)
      refine lv_iload hx hb d_Mod_next_116 (lv_at hl 4 rfl) ?_
      refine lv_iconst (v := (-1 : Int32)) hx hb d_Mod_next_118 (by decide) ?_
      refine lv_icmp_ne (tgt := 160) hx hb d_Mod_next_119 (by decide) (fun c_382 => ?_) (fun c_382 => ?_)
      · replace hF := xo_if_f c_382 hF
        refine lv_aload_n hx hb d_Mod_next_160 rfl (lv_at hl 0 rfl) ?_
        refine lv_iload hx hb d_Mod_next_161 (lv_at hl 4 rfl) ?_
        obtain ⟨v11, h_v11, hF⟩ := xo_ob hF
        refine xk_goI (xk_runV (As := [.int x4]) (rest := []) hx hb hml hown hts hK hE (fun _ h => h) hP hS ok_Mod_whereIs in_Mod_whereIs u_893 (c_Mod_whereIs l D cI cZ ad A adK adV hDw x4 t5 v11 h_v11) (va_recv hK hP (ci := 4) (q0 := 0) rfl xw_M_at_0) (by decide) rfl hl.1 rfl (Nat.le_of_ble_eq_true rfl) d_Mod_next_163 ⟨Nat.le_refl _, Nat.le_refl _⟩) (fun _ h => h) hS (fun H locs hP hS => ?_)
        refine lv_istore (lv' := [(5, .int v11), (0, .ref (ad 0)), (1, .int x1), (2, .int x2), (3, .int x3), (4, .int x4)]) hx hb d_Mod_next_166 hl (by decide) rfl (fun ls hl => ?_)
        refine lv_iload hx hb d_Mod_next_168 (lv_at hl 0 rfl) ?_
        refine lv_bipush (v := (-9 : Int32)) hx hb d_Mod_next_170 (by decide) ?_
        refine lv_icmp_ne (tgt := 180) hx hb d_Mod_next_172 (by decide) (fun c_385 => ?_) (fun c_385 => ?_)
        · replace hF := xo_if_f c_385 hF
          refine lv_aload_n hx hb d_Mod_next_180 rfl (lv_at hl 1 rfl) ?_
          refine lv_iload hx hb d_Mod_next_181 (lv_at hl 0 rfl) ?_
          obtain ⟨v12, h_v12, hF⟩ := xo_ob hF
          refine xk_goI (xk_runV (As := [.int v11]) (rest := []) hx hb hml hown hts hK hE (fun _ h => h) hP hS ok_Mod_cuts in_Mod_cuts u_921 (c_Mod_cuts l D cI cZ ad A adK adV hDw v11 t5 v12 h_v12) (va_recv hK hP (ci := 4) (q0 := 0) rfl xw_M_at_0) (by decide) rfl hl.1 rfl (Nat.le_of_ble_eq_true rfl) d_Mod_next_183 ⟨Nat.le_refl _, Nat.le_refl _⟩) (fun _ h => h) hS (fun H locs hP hS => ?_)
          refine lv_if_eq (tgt := 193) hx hb d_Mod_next_186 (by decide) (fun c_386 => ?_) (fun c_386 => ?_)
          · replace hF := xo_if_t c_386 hF
            refine lv_iconst (v := (0 : Int32)) hx hb d_Mod_next_193 (by decide) ?_
            obtain ⟨q8, q9⟩ := xo_s2 hF
            subst q8
            subst q9
            exact hret 194 _ _ _ d_Mod_next_194 rfl hP hS
          · replace hF := xo_if_f c_386 hF
            refine lv_iconst (v := (1 : Int32)) hx hb d_Mod_next_189 (by decide) ?_
            refine lv_goto (tgt := 194) hx hb d_Mod_next_190 (by decide) ?_
            obtain ⟨q8, q9⟩ := xo_s2 hF
            subst q8
            subst q9
            exact hret 194 _ _ _ d_Mod_next_194 rfl hP hS
        · replace hF := xo_if_t c_385 hF
          refine lv_bipush (v := (-9 : Int32)) hx hb d_Mod_next_175 (by decide) ?_
          refine lv_goto (tgt := 194) hx hb d_Mod_next_177 (by decide) ?_
          obtain ⟨q8, q9⟩ := xo_s2 hF
          subst q8
          subst q9
          exact hret 194 _ _ _ d_Mod_next_194 rfl hP hS
      · replace hF := xo_if_t c_382 hF
        refine lv_iconst (v := (0 : Int32)) hx hb d_Mod_next_122 (by decide) ?_
        refine lv_istore (lv' := [(5, .int (0 : Int32)), (0, .ref (ad 0)), (1, .int x1), (2, .int x2), (3, .int x3), (4, .int x4)]) hx hb d_Mod_next_123 hl (by decide) rfl (fun ls hl => ?_)
        refine lv_iconst (v := (0 : Int32)) hx hb d_Mod_next_125 (by decide) ?_
        refine lv_istore (lv' := [(6, .int (0 : Int32)), (5, .int (0 : Int32)), (0, .ref (ad 0)), (1, .int x1), (2, .int x2), (3, .int x3), (4, .int x4)]) hx hb d_Mod_next_126 hl (by decide) rfl (fun ls hl => ?_)
        have lp128 : ∀ (n : Nat) (w128_5 : Int32) (w128_6 : Int32) (y : Int32), xo_lp (fun q : (Int32 × Int32) => F_Mod_next_b128 t5 q.1 q.2) n (w128_5, w128_6) = some y → (∀ (e5 : Int32), e5 = y → ∀ (H : Heap) (locs : List Loc) (ls : Array Slot), va_P D classes (xw_M ad cI cZ t5) H → va_S A s.heap H locs → lv_has ls 7 [(5, .int e5)] → W p l e (xk_rm 3 79) s m args below meth c H locs 0 0 Q (F0 m 157 ls [])) → ∀ (H : Heap) (locs : List Loc) (ls : Array Slot), va_P D classes (xw_M ad cI cZ t5) H → va_S A s.heap H locs → lv_has ls 7 [(0, .ref (ad 0)), (5, .int w128_5), (6, .int w128_6)] → W p l e (xk_rm 3 79) s m args below meth c H locs 0 0 Q (F0 m 128 ls []) := by
          intro n
          induction n with
          | zero =>
            intro w128_5 w128_6 y hL
            exact nomatch (show (none : Option _) = some y from hL)
          | succ n ih =>
            intro w128_5 w128_6 y hL kx0 H locs ls hP hS hl
            obtain ⟨z9, hB, hL⟩ := xo_lp_s hL
            replace hB : F_Mod_next_b128 t5 w128_5 w128_6 = some z9 := hB
            unfold F_Mod_next_b128 at hB
            refine lv_iload hx hb d_Mod_next_128 (lv_at hl 2 rfl) ?_
            refine lv_iconst (v := (1 : Int32)) hx hb d_Mod_next_130 (by decide) ?_
            refine lv_aload_n hx hb d_Mod_next_131 rfl (lv_at hl 0 rfl) ?_
            refine xk_get (C := R_Mod) (T := F_Mod) (N := 23) hx hb hts i_Mod hown hK hP 0 xw_M_at_0 rfl 0 (by decide) u_666 rfl d_Mod_next_132 ?_
            refine lv_ishl hx hb d_Mod_next_135 ?_
            refine lv_icmp_ge (tgt := 157) hx hb d_Mod_next_136 (by decide) (fun c_383 => ?_) (fun c_383 => ?_)
            · replace hB := xo_if_t c_383 hB
              have q9 := Option.some.inj hB
              subst q9
              replace hL := Option.some.inj (xo_elR hL)
              subst hL
              exact kx0 _ rfl _ _ _ hP hS (lv_sub hl [1] rfl)
            · replace hB := xo_if_f c_383 hB
              refine lv_aload_n hx hb d_Mod_next_139 rfl (lv_at hl 0 rfl) ?_
              refine lv_iload hx hb d_Mod_next_140 (lv_at hl 2 rfl) ?_
              obtain ⟨v7, h_v7, hB⟩ := xo_ob hB
              refine xk_goI (xk_runV (As := [.int w128_6]) (rest := []) hx hb hml hown hts hK hE (fun _ h => h) hP hS ok_Mod_cuts in_Mod_cuts u_921 (c_Mod_cuts l D cI cZ ad A adK adV hDw w128_6 t5 v7 h_v7) (va_recv hK hP (ci := 4) (q0 := 0) rfl xw_M_at_0) (by decide) rfl hl.1 rfl (Nat.le_of_ble_eq_true rfl) d_Mod_next_142 ⟨Nat.le_refl _, Nat.le_refl _⟩) (fun _ h => h) hS (fun H locs hP hS => ?_)
              refine lv_if_eq (tgt := 151) hx hb d_Mod_next_145 (by decide) (fun c_384 => ?_) (fun c_384 => ?_)
              · replace hB := xo_if_t c_384 hB
                obtain ⟨v8, e_v8, hB⟩ := xo_nm_e hB
                refine lv_iinc (v := v8) (lv' := [(6, .int v8), (0, .ref (ad 0)), (5, .int w128_5)]) hx hb d_Mod_next_151 hl (k := 2) rfl (by rw [e_v8]; rfl) (by decide) rfl (fun ls hl => ?_)
                clear e_v8
                refine lv_goto (tgt := 128) hx hb d_Mod_next_154 (by decide) ?_
                have q9 := Option.some.inj hB
                subst q9
                exact ih _ _ _ (xo_elL hL) kx0 _ _ _ hP hS (lv_sub hl [1, 2, 0] rfl)
              · replace hB := xo_if_f c_384 hB
                obtain ⟨v9, e_v9, hB⟩ := xo_nm_e hB
                refine lv_iinc (v := v9) (lv' := [(5, .int v9), (0, .ref (ad 0)), (6, .int w128_6)]) hx hb d_Mod_next_148 hl (k := 1) rfl (by rw [e_v9]; rfl) (by decide) rfl (fun ls hl => ?_)
                clear e_v9
                obtain ⟨v10, e_v10, hB⟩ := xo_nm_e hB
                refine lv_iinc (v := v10) (lv' := [(6, .int v10), (5, .int v9), (0, .ref (ad 0))]) hx hb d_Mod_next_151 hl (k := 2) rfl (by rw [e_v10]; rfl) (by decide) rfl (fun ls hl => ?_)
                clear e_v10
                refine lv_goto (tgt := 128) hx hb d_Mod_next_154 (by decide) ?_
                have q9 := Option.some.inj hB
                subst q9
                exact ih _ _ _ (xo_elL hL) kx0 _ _ _ hP hS (lv_sub hl [2, 1, 0] rfl)
        obtain ⟨y128, hL128, hF⟩ := xo_ob hF
        refine lp128 1000000 (0 : Int32) (0 : Int32) y128 hL128 ?_ _ _ _ hP hS (lv_sub hl [2, 1, 0] rfl)
        intro o6 ey H locs ls hP hS hl
        subst ey
        refine lv_iload hx hb d_Mod_next_157 (lv_at hl 0 rfl) ?_
        obtain ⟨q8, q9⟩ := xo_s2 hF
        subst q8
        subst q9
        exact hret 159 _ _ _ d_Mod_next_159 rfl hP hS
    · replace hF := xo_if_f c_381 hF
      exact mg92 _ hF _ _ _ hP hS (lv_sub hl [0] rfl)
  have mg64 : ∀ (xs : XS), F_Mod_next_m64 xs = some (r9, st9) → ∀ (H : Heap) (locs : List Loc) (ls : Array Slot), va_P D classes (xw_M ad cI cZ xs) H → va_S A s.heap H locs → lv_has ls 7 [(0, .ref (ad 0))] → W p l e (xk_rm 3 79) s m args below meth c H locs 0 0 Q (F0 m 64 ls []) := by
    intro xs hF H locs ls hP hS hl
    unfold F_Mod_next_m64 at hF
    refine lv_aload_n hx hb d_Mod_next_64 rfl (lv_at hl 0 rfl) ?_
    refine lv_bipush (v := (-6 : Int32)) hx hb d_Mod_next_65 (by decide) ?_
    obtain ⟨v13, t14, h_v13, hF⟩ := xo_ob2 hF
    refine xk_goI (xk_runV (As := [.int (-6 : Int32)]) (rest := []) hx hb hml hown hts hK hE (fun _ h => h) hP hS ok_Mod_no in_Mod_no u_741 (c_Mod_no l D cI cZ ad A adK adV hDw (-6 : Int32) xs v13 t14 h_v13) (va_recv hK hP (ci := 4) (q0 := 0) rfl xw_M_at_0) (by decide) rfl hl.1 rfl (Nat.le_of_ble_eq_true rfl) d_Mod_next_67 ⟨Nat.le_refl _, Nat.le_refl _⟩) (fun _ h => h) hS (fun H locs hP hS => ?_)
    obtain ⟨q8, q9⟩ := xo_s2 hF
    subst q8
    subst q9
    exact hret 70 _ _ _ d_Mod_next_70 rfl hP hS
  have mg39 : ∀ (xs : XS), F_Mod_next_m39 xs = some (r9, st9) → ∀ (H : Heap) (locs : List Loc) (ls : Array Slot), va_P D classes (xw_M ad cI cZ xs) H → va_S A s.heap H locs → lv_has ls 7 [(0, .ref (ad 0))] → W p l e (xk_rm 3 79) s m args below meth c H locs 0 0 Q (F0 m 39 ls []) := by
    intro xs hF H locs ls hP hS hl
    unfold F_Mod_next_m39 at hF
    refine lv_aload_n hx hb d_Mod_next_39 rfl (lv_at hl 0 rfl) ?_
    refine lv_bipush (v := (-4 : Int32)) hx hb d_Mod_next_40 (by decide) ?_
    obtain ⟨v15, t16, h_v15, hF⟩ := xo_ob2 hF
    refine xk_goI (xk_runV (As := [.int (-4 : Int32)]) (rest := []) hx hb hml hown hts hK hE (fun _ h => h) hP hS ok_Mod_no in_Mod_no u_741 (c_Mod_no l D cI cZ ad A adK adV hDw (-4 : Int32) xs v15 t16 h_v15) (va_recv hK hP (ci := 4) (q0 := 0) rfl xw_M_at_0) (by decide) rfl hl.1 rfl (Nat.le_of_ble_eq_true rfl) d_Mod_next_42 ⟨Nat.le_refl _, Nat.le_refl _⟩) (fun _ h => h) hS (fun H locs hP hS => ?_)
    obtain ⟨q8, q9⟩ := xo_s2 hF
    subst q8
    subst q9
    exact hret 45 _ _ _ d_Mod_next_45 rfl hP hS
  have mg21 : ∀ (x1 : Int32) (x2 : Int32) (x3 : Int32) (x4 : Int32) (xs : XS), F_Mod_next_m21 x1 x2 x3 x4 xs = some (r9, st9) → ∀ (H : Heap) (locs : List Loc) (ls : Array Slot), va_P D classes (xw_M ad cI cZ xs) H → va_S A s.heap H locs → lv_has ls 7 [(0, .ref (ad 0)), (1, .int x1), (2, .int x2), (3, .int x3), (4, .int x4)] → W p l e (xk_rm 3 79) s m args below meth c H locs 0 0 Q (F0 m 21 ls []) := by
    intro x1 x2 x3 x4 xs hF H locs ls hP hS hl
    unfold F_Mod_next_m21 at hF
    refine lv_iload_n hx hb d_Mod_next_21 rfl (lv_at hl 1 rfl) ?_
    refine lv_bipush (v := (-9 : Int32)) hx hb d_Mod_next_22 (by decide) ?_
    refine lv_icmp_lt (tgt := 39) hx hb d_Mod_next_24 (by decide) (fun c_387 => ?_) (fun c_387 => ?_)
    · replace hF := xo_if_t c_387 hF
      exact mg39 _ hF _ _ _ hP hS (lv_sub hl [0] rfl)
    · replace hF := xo_if_f c_387 hF
      refine lv_iload_n hx hb d_Mod_next_27 rfl (lv_at hl 2 rfl) ?_
      refine lv_bipush (v := (-9 : Int32)) hx hb d_Mod_next_28 (by decide) ?_
      refine lv_icmp_lt (tgt := 39) hx hb d_Mod_next_30 (by decide) (fun c_388 => ?_) (fun c_388 => ?_)
      · replace hF := xo_if_t c_388 hF
        exact mg39 _ hF _ _ _ hP hS (lv_sub hl [0] rfl)
      · replace hF := xo_if_f c_388 hF
        refine lv_iload_n hx hb d_Mod_next_33 rfl (lv_at hl 3 rfl) ?_
        refine lv_bipush (v := (-99 : Int32)) hx hb d_Mod_next_34 (by decide) ?_
        refine lv_icmp_ge (tgt := 46) hx hb d_Mod_next_36 (by decide) (fun c_389 => ?_) (fun c_389 => ?_)
        · replace hF := xo_if_t c_389 hF
          refine lv_iload_n hx hb d_Mod_next_46 rfl (lv_at hl 1 rfl) ?_
          refine lv_bipush (v := (9 : Int32)) hx hb d_Mod_next_47 (by decide) ?_
          refine lv_icmp_gt (tgt := 64) hx hb d_Mod_next_49 (by decide) (fun c_390 => ?_) (fun c_390 => ?_)
          · replace hF := xo_if_t c_390 hF
            exact mg64 _ hF _ _ _ hP hS (lv_sub hl [0] rfl)
          · replace hF := xo_if_f c_390 hF
            refine lv_iload_n hx hb d_Mod_next_52 rfl (lv_at hl 2 rfl) ?_
            refine lv_bipush (v := (9 : Int32)) hx hb d_Mod_next_53 (by decide) ?_
            refine lv_icmp_gt (tgt := 64) hx hb d_Mod_next_55 (by decide) (fun c_391 => ?_) (fun c_391 => ?_)
            · replace hF := xo_if_t c_391 hF
              exact mg64 _ hF _ _ _ hP hS (lv_sub hl [0] rfl)
            · replace hF := xo_if_f c_391 hF
              refine lv_iload_n hx hb d_Mod_next_58 rfl (lv_at hl 3 rfl) ?_
              refine lv_bipush (v := (99 : Int32)) hx hb d_Mod_next_59 (by decide) ?_
              refine lv_icmp_le (tgt := 71) hx hb d_Mod_next_61 (by decide) (fun c_392 => ?_) (fun c_392 => ?_)
              · replace hF := xo_if_t c_392 hF
                refine lv_iload_n hx hb d_Mod_next_71 rfl (lv_at hl 1 rfl) ?_
                refine lv_if_ne (tgt := 79) hx hb d_Mod_next_72 (by decide) (fun c_393 => ?_) (fun c_393 => ?_)
                · replace hF := xo_if_f c_393 hF
                  exact mg79 _ _ _ _ _ hF _ _ _ hP hS (lv_sub hl [0, 1, 2, 3, 4] rfl)
                · replace hF := xo_if_t c_393 hF
                  refine lv_iload_n hx hb d_Mod_next_75 rfl (lv_at hl 2 rfl) ?_
                  refine lv_if_eq (tgt := 92) hx hb d_Mod_next_76 (by decide) (fun c_394 => ?_) (fun c_394 => ?_)
                  · replace hF := xo_if_t c_394 hF
                    exact mg92 _ hF _ _ _ hP hS (lv_sub hl [0] rfl)
                  · replace hF := xo_if_f c_394 hF
                    exact mg79 _ _ _ _ _ hF _ _ _ hP hS (lv_sub hl [0, 1, 2, 3, 4] rfl)
              · replace hF := xo_if_f c_392 hF
                exact mg64 _ hF _ _ _ hP hS (lv_sub hl [0] rfl)
        · replace hF := xo_if_f c_389 hF
          exact mg39 _ hF _ _ _ hP hS (lv_sub hl [0] rfl)
  refine lv_iload hx hb d_Mod_next_0 (lv_at hl 4 rfl) ?_
  refine lv_iconst (v := (-1 : Int32)) hx hb d_Mod_next_2 (by decide) ?_
  refine lv_icmp_eq (tgt := 21) hx hb d_Mod_next_3 (by decide) (fun c_395 => ?_) (fun c_395 => ?_)
  · replace hF := xo_if_t c_395 hF
    exact mg21 _ _ _ _ _ hF _ _ _ hP hS (lv_sub hl [0, 1, 2, 3, 4] rfl)
  · replace hF := xo_if_f c_395 hF
    refine lv_aload_n hx hb d_Mod_next_6 rfl (lv_at hl 0 rfl) ?_
    refine lv_iload hx hb d_Mod_next_7 (lv_at hl 4 rfl) ?_
    obtain ⟨v17, h_v17, hF⟩ := xo_ob hF
    refine xk_goI (xk_runV (As := [.int x4]) (rest := []) hx hb hml hown hts hK hE (fun _ h => h) hP hS ok_Mod_isPlot in_Mod_isPlot u_815 (c_Mod_isPlot l D cI cZ ad A adK adV hDw x4 st v17 h_v17) (va_recv hK hP (ci := 4) (q0 := 0) rfl xw_M_at_0) (by decide) rfl hl.1 rfl (Nat.le_of_ble_eq_true rfl) d_Mod_next_9 ⟨Nat.le_refl _, Nat.le_refl _⟩) (fun _ h => h) hS (fun H locs hP hS => ?_)
    refine lv_if_ne (tgt := 21) hx hb d_Mod_next_12 (by decide) (fun c_396 => ?_) (fun c_396 => ?_)
    · replace hF := xo_if_f c_396 hF
      exact mg21 _ _ _ _ _ hF _ _ _ hP hS (lv_sub hl [0, 1, 2, 3, 4] rfl)
    · replace hF := xo_if_t c_396 hF
      refine lv_aload_n hx hb d_Mod_next_15 rfl (lv_at hl 0 rfl) ?_
      refine lv_iconst (v := (-1 : Int32)) hx hb d_Mod_next_16 (by decide) ?_
      obtain ⟨v18, t19, h_v18, hF⟩ := xo_ob2 hF
      refine xk_goI (xk_runV (As := [.int (-1 : Int32)]) (rest := []) hx hb hml hown hts hK hE (fun _ h => h) hP hS ok_Mod_no in_Mod_no u_741 (c_Mod_no l D cI cZ ad A adK adV hDw (-1 : Int32) st v18 t19 h_v18) (va_recv hK hP (ci := 4) (q0 := 0) rfl xw_M_at_0) (by decide) rfl hl.1 rfl (Nat.le_of_ble_eq_true rfl) d_Mod_next_17 ⟨Nat.le_refl _, Nat.le_refl _⟩) (fun _ h => h) hS (fun H locs hP hS => ?_)
      obtain ⟨q8, q9⟩ := xo_s2 hF
      subst q8
      subst q9
      exact hret 20 _ _ _ d_Mod_next_20 rfl hP hS
set_option maxHeartbeats 4000000 in
set_option maxRecDepth 100000 in
theorem c_Mod_through (l : Launch) (D : va_G) (cI cZ : ClassId) (ad : Nat → Nat) (A : Nat → Prop) (adK adV : Nat → Nat) (hDw : ∀ st : XS, va_D A (xw_M ad cI cZ st)) (x1 : Int32) (x2 : Int32) (x3 : Int32) (st : XS) (r9 : Int32) (st9 : XS) (hF : F_Mod_through x1 x2 x3 st = some (r9, st9)) : K_I l D cI cZ A adK adV (xw_M ad cI cZ) y_Mod_through b_Mod_through 4 (some .int) 2 43 [.ref (ad 0), .int x1, .int x2, .int x3] st r9 st9 := by
  refine xk_startI (by decide) .int rfl (Nat.le_of_ble_eq_true rfl) ?_
  intro p e s m args below meth c Q ls hx hb hml hown hts hK hE hP hS hl hret
  replace hown : s.vm.findClass R_Mod = some m.cls := hown
  replace hl : lv_has ls 4 [(0, .ref (ad 0)), (1, .int x1), (2, .int x2), (3, .int x3)] := hl
  unfold F_Mod_through at hF
  have mg69 : ∀ (x1 : Int32) (x2 : Int32) (x3 : Int32) (xs : XS), F_Mod_through_m69 x1 x2 x3 xs = some (r9, st9) → ∀ (H : Heap) (locs : List Loc) (ls : Array Slot), va_P D classes (xw_M ad cI cZ xs) H → va_S A s.heap H locs → lv_has ls 4 [(0, .ref (ad 0)), (1, .int x1), (2, .int x2), (3, .int x3)] → W p l e (xk_rm 2 43) s m args below meth c H locs 0 0 Q (F0 m 69 ls []) := by
    intro x1 x2 x3 xs hF H locs ls hP hS hl
    unfold F_Mod_through_m69 at hF
    refine lv_iload_n hx hb d_Mod_through_69 rfl (lv_at hl 1 rfl) ?_
    refine lv_aload_n hx hb d_Mod_through_70 rfl (lv_at hl 0 rfl) ?_
    refine xk_get (C := R_Mod) (T := F_Mod) (N := 23) hx hb hts i_Mod hown hK hP 0 xw_M_at_0 rfl 6 (by decide) u_672 rfl d_Mod_through_71 ?_
    refine lv_iload_n hx hb d_Mod_through_74 rfl (lv_at hl 3 rfl) ?_
    obtain ⟨v1, h_v1, hF⟩ := xo_ob hF
    refine xk_iald hx hb hK hP 5 xw_M_at_6 h_v1 d_Mod_through_75 ?_
    refine lv_imul hx hb d_Mod_through_76 ?_
    refine lv_iload_n hx hb d_Mod_through_77 rfl (lv_at hl 2 rfl) ?_
    refine lv_aload_n hx hb d_Mod_through_78 rfl (lv_at hl 0 rfl) ?_
    refine xk_get (C := R_Mod) (T := F_Mod) (N := 23) hx hb hts i_Mod hown hK hP 0 xw_M_at_0 rfl 7 (by decide) u_673 rfl d_Mod_through_79 ?_
    refine lv_iload_n hx hb d_Mod_through_82 rfl (lv_at hl 3 rfl) ?_
    obtain ⟨v2, h_v2, hF⟩ := xo_ob hF
    refine xk_iald hx hb hK hP 6 xw_M_at_7 h_v2 d_Mod_through_83 ?_
    refine lv_imul hx hb d_Mod_through_84 ?_
    refine lv_iadd hx hb d_Mod_through_85 ?_
    obtain ⟨q8, q9⟩ := xo_s2 hF
    subst q8
    subst q9
    exact hret 86 _ _ _ d_Mod_through_86 rfl hP hS
  have mg45 : ∀ (xs : XS), F_Mod_through_m45 xs = some (r9, st9) → ∀ (H : Heap) (locs : List Loc) (ls : Array Slot), va_P D classes (xw_M ad cI cZ xs) H → va_S A s.heap H locs → lv_has ls 4 [(0, .ref (ad 0))] → W p l e (xk_rm 2 43) s m args below meth c H locs 0 0 Q (F0 m 45 ls []) := by
    intro xs hF H locs ls hP hS hl
    unfold F_Mod_through_m45 at hF
    refine lv_aload_n hx hb d_Mod_through_45 rfl (lv_at hl 0 rfl) ?_
    refine lv_bipush (v := (-6 : Int32)) hx hb d_Mod_through_46 (by decide) ?_
    obtain ⟨v3, t4, h_v3, hF⟩ := xo_ob2 hF
    refine xk_goI (xk_runV (As := [.int (-6 : Int32)]) (rest := []) hx hb hml hown hts hK hE (fun _ h => h) hP hS ok_Mod_noFar in_Mod_noFar u_790 (c_Mod_noFar l D cI cZ ad A adK adV hDw (-6 : Int32) xs v3 t4 h_v3) (va_recv hK hP (ci := 4) (q0 := 0) rfl xw_M_at_0) (by decide) rfl hl.1 rfl (Nat.le_of_ble_eq_true rfl) d_Mod_through_48 ⟨Nat.le_refl _, Nat.le_refl _⟩) (fun _ h => h) hS (fun H locs hP hS => ?_)
    obtain ⟨q8, q9⟩ := xo_s2 hF
    subst q8
    subst q9
    exact hret 51 _ _ _ d_Mod_through_51 rfl hP hS
  have mg26 : ∀ (xs : XS), F_Mod_through_m26 xs = some (r9, st9) → ∀ (H : Heap) (locs : List Loc) (ls : Array Slot), va_P D classes (xw_M ad cI cZ xs) H → va_S A s.heap H locs → lv_has ls 4 [(0, .ref (ad 0))] → W p l e (xk_rm 2 43) s m args below meth c H locs 0 0 Q (F0 m 26 ls []) := by
    intro xs hF H locs ls hP hS hl
    unfold F_Mod_through_m26 at hF
    refine lv_aload_n hx hb d_Mod_through_26 rfl (lv_at hl 0 rfl) ?_
    refine lv_bipush (v := (-4 : Int32)) hx hb d_Mod_through_27 (by decide) ?_
    obtain ⟨v5, t6, h_v5, hF⟩ := xo_ob2 hF
    refine xk_goI (xk_runV (As := [.int (-4 : Int32)]) (rest := []) hx hb hml hown hts hK hE (fun _ h => h) hP hS ok_Mod_noFar in_Mod_noFar u_790 (c_Mod_noFar l D cI cZ ad A adK adV hDw (-4 : Int32) xs v5 t6 h_v5) (va_recv hK hP (ci := 4) (q0 := 0) rfl xw_M_at_0) (by decide) rfl hl.1 rfl (Nat.le_of_ble_eq_true rfl) d_Mod_through_29 ⟨Nat.le_refl _, Nat.le_refl _⟩) (fun _ h => h) hS (fun H locs hP hS => ?_)
    obtain ⟨q8, q9⟩ := xo_s2 hF
    subst q8
    subst q9
    exact hret 32 _ _ _ d_Mod_through_32 rfl hP hS
  refine lv_aload_n hx hb d_Mod_through_0 rfl (lv_at hl 0 rfl) ?_
  refine lv_iload_n hx hb d_Mod_through_1 rfl (lv_at hl 3 rfl) ?_
  obtain ⟨v7, h_v7, hF⟩ := xo_ob hF
  refine xk_goI (xk_runV (As := [.int x3]) (rest := []) hx hb hml hown hts hK hE (fun _ h => h) hP hS ok_Mod_isPlot in_Mod_isPlot u_815 (c_Mod_isPlot l D cI cZ ad A adK adV hDw x3 st v7 h_v7) (va_recv hK hP (ci := 4) (q0 := 0) rfl xw_M_at_0) (by decide) rfl hl.1 rfl (Nat.le_of_ble_eq_true rfl) d_Mod_through_2 ⟨Nat.le_refl _, Nat.le_refl _⟩) (fun _ h => h) hS (fun H locs hP hS => ?_)
  refine lv_if_ne (tgt := 14) hx hb d_Mod_through_5 (by decide) (fun c_397 => ?_) (fun c_397 => ?_)
  · replace hF := xo_if_f c_397 hF
    refine lv_iload_n hx hb d_Mod_through_14 rfl (lv_at hl 1 rfl) ?_
    refine lv_bipush (v := (-9 : Int32)) hx hb d_Mod_through_15 (by decide) ?_
    refine lv_icmp_lt (tgt := 26) hx hb d_Mod_through_17 (by decide) (fun c_398 => ?_) (fun c_398 => ?_)
    · replace hF := xo_if_t c_398 hF
      exact mg26 _ hF _ _ _ hP hS (lv_sub hl [0] rfl)
    · replace hF := xo_if_f c_398 hF
      refine lv_iload_n hx hb d_Mod_through_20 rfl (lv_at hl 2 rfl) ?_
      refine lv_bipush (v := (-9 : Int32)) hx hb d_Mod_through_21 (by decide) ?_
      refine lv_icmp_ge (tgt := 33) hx hb d_Mod_through_23 (by decide) (fun c_399 => ?_) (fun c_399 => ?_)
      · replace hF := xo_if_t c_399 hF
        refine lv_iload_n hx hb d_Mod_through_33 rfl (lv_at hl 1 rfl) ?_
        refine lv_bipush (v := (9 : Int32)) hx hb d_Mod_through_34 (by decide) ?_
        refine lv_icmp_gt (tgt := 45) hx hb d_Mod_through_36 (by decide) (fun c_400 => ?_) (fun c_400 => ?_)
        · replace hF := xo_if_t c_400 hF
          exact mg45 _ hF _ _ _ hP hS (lv_sub hl [0] rfl)
        · replace hF := xo_if_f c_400 hF
          refine lv_iload_n hx hb d_Mod_through_39 rfl (lv_at hl 2 rfl) ?_
          refine lv_bipush (v := (9 : Int32)) hx hb d_Mod_through_40 (by decide) ?_
          refine lv_icmp_le (tgt := 52) hx hb d_Mod_through_42 (by decide) (fun c_401 => ?_) (fun c_401 => ?_)
          · replace hF := xo_if_t c_401 hF
            refine lv_iload_n hx hb d_Mod_through_52 rfl (lv_at hl 1 rfl) ?_
            refine lv_if_ne (tgt := 69) hx hb d_Mod_through_53 (by decide) (fun c_402 => ?_) (fun c_402 => ?_)
            · replace hF := xo_if_f c_402 hF
              exact mg69 _ _ _ _ hF _ _ _ hP hS (lv_sub hl [0, 1, 2, 3] rfl)
            · replace hF := xo_if_t c_402 hF
              refine lv_iload_n hx hb d_Mod_through_56 rfl (lv_at hl 2 rfl) ?_
              refine lv_if_ne (tgt := 69) hx hb d_Mod_through_57 (by decide) (fun c_403 => ?_) (fun c_403 => ?_)
              · replace hF := xo_if_f c_403 hF
                exact mg69 _ _ _ _ hF _ _ _ hP hS (lv_sub hl [0, 1, 2, 3] rfl)
              · replace hF := xo_if_t c_403 hF
                refine lv_aload_n hx hb d_Mod_through_60 rfl (lv_at hl 0 rfl) ?_
                refine lv_bipush (v := (-3 : Int32)) hx hb d_Mod_through_61 (by decide) ?_
                obtain ⟨v10, t11, h_v10, hF⟩ := xo_ob2 hF
                refine xk_goI (xk_runV (As := [.int (-3 : Int32)]) (rest := []) hx hb hml hown hts hK hE (fun _ h => h) hP hS ok_Mod_noFar in_Mod_noFar u_790 (c_Mod_noFar l D cI cZ ad A adK adV hDw (-3 : Int32) st v10 t11 h_v10) (va_recv hK hP (ci := 4) (q0 := 0) rfl xw_M_at_0) (by decide) rfl hl.1 rfl (Nat.le_of_ble_eq_true rfl) d_Mod_through_63 ⟨Nat.le_refl _, Nat.le_refl _⟩) (fun _ h => h) hS (fun H locs hP hS => ?_)
                refine lv_goto (tgt := 86) hx hb d_Mod_through_66 (by decide) ?_
                obtain ⟨q8, q9⟩ := xo_s2 hF
                subst q8
                subst q9
                exact hret 86 _ _ _ d_Mod_through_86 rfl hP hS
          · replace hF := xo_if_f c_401 hF
            exact mg45 _ hF _ _ _ hP hS (lv_sub hl [0] rfl)
      · replace hF := xo_if_f c_399 hF
        exact mg26 _ hF _ _ _ hP hS (lv_sub hl [0] rfl)
  · replace hF := xo_if_t c_397 hF
    refine lv_aload_n hx hb d_Mod_through_8 rfl (lv_at hl 0 rfl) ?_
    refine lv_iconst (v := (-1 : Int32)) hx hb d_Mod_through_9 (by decide) ?_
    obtain ⟨v8, t9, h_v8, hF⟩ := xo_ob2 hF
    refine xk_goI (xk_runV (As := [.int (-1 : Int32)]) (rest := []) hx hb hml hown hts hK hE (fun _ h => h) hP hS ok_Mod_noFar in_Mod_noFar u_790 (c_Mod_noFar l D cI cZ ad A adK adV hDw (-1 : Int32) st v8 t9 h_v8) (va_recv hK hP (ci := 4) (q0 := 0) rfl xw_M_at_0) (by decide) rfl hl.1 rfl (Nat.le_of_ble_eq_true rfl) d_Mod_through_10 ⟨Nat.le_refl _, Nat.le_refl _⟩) (fun _ h => h) hS (fun H locs hP hS => ?_)
    obtain ⟨q8, q9⟩ := xo_s2 hF
    subst q8
    subst q9
    exact hret 13 _ _ _ d_Mod_through_13 rfl hP hS
set_option maxHeartbeats 4000000 in
set_option maxRecDepth 100000 in
theorem c_Mod_spare (l : Launch) (D : va_G) (cI cZ : ClassId) (ad : Nat → Nat) (A : Nat → Prop) (adK adV : Nat → Nat) (hDw : ∀ st : XS, va_D A (xw_M ad cI cZ st)) (x1 : Int32) (x2 : Int32) (st : XS) (r9 : Int32) (st9 : XS) (hF : F_Mod_spare x1 x2 st = some (r9, st9)) : K_I l D cI cZ A adK adV (xw_M ad cI cZ) y_Mod_spare b_Mod_spare 7 (some .int) 3 79 [.ref (ad 0), .int x1, .int x2] st r9 st9 := by
  refine xk_startI (by decide) .int rfl (Nat.le_of_ble_eq_true rfl) ?_
  intro p e s m args below meth c Q ls hx hb hml hown hts hK hE hP hS hl hret
  replace hown : s.vm.findClass R_Mod = some m.cls := hown
  replace hl : lv_has ls 7 [(0, .ref (ad 0)), (1, .int x1), (2, .int x2)] := hl
  unfold F_Mod_spare at hF
  have mg59 : ∀ (xs : XS), F_Mod_spare_m59 xs = some (r9, st9) → ∀ (H : Heap) (locs : List Loc) (ls : Array Slot), va_P D classes (xw_M ad cI cZ xs) H → va_S A s.heap H locs → lv_has ls 7 [(0, .ref (ad 0))] → W p l e (xk_rm 3 79) s m args below meth c H locs 0 0 Q (F0 m 59 ls []) := by
    intro xs hF H locs ls hP hS hl
    unfold F_Mod_spare_m59 at hF
    refine lv_aload_n hx hb d_Mod_spare_59 rfl (lv_at hl 0 rfl) ?_
    refine lv_bipush (v := (-3 : Int32)) hx hb d_Mod_spare_60 (by decide) ?_
    obtain ⟨v1, t2, h_v1, hF⟩ := xo_ob2 hF
    refine xk_goI (xk_runV (As := [.int (-3 : Int32)]) (rest := []) hx hb hml hown hts hK hE (fun _ h => h) hP hS ok_Mod_noFar in_Mod_noFar u_790 (c_Mod_noFar l D cI cZ ad A adK adV hDw (-3 : Int32) xs v1 t2 h_v1) (va_recv hK hP (ci := 4) (q0 := 0) rfl xw_M_at_0) (by decide) rfl hl.1 rfl (Nat.le_of_ble_eq_true rfl) d_Mod_spare_62 ⟨Nat.le_refl _, Nat.le_refl _⟩) (fun _ h => h) hS (fun H locs hP hS => ?_)
    obtain ⟨q8, q9⟩ := xo_s2 hF
    subst q8
    subst q9
    exact hret 65 _ _ _ d_Mod_spare_65 rfl hP hS
  have mg46 : ∀ (x1 : Int32) (x2 : Int32) (xs : XS), F_Mod_spare_m46 x1 x2 xs = some (r9, st9) → ∀ (H : Heap) (locs : List Loc) (ls : Array Slot), va_P D classes (xw_M ad cI cZ xs) H → va_S A s.heap H locs → lv_has ls 7 [(0, .ref (ad 0)), (1, .int x1), (2, .int x2)] → W p l e (xk_rm 3 79) s m args below meth c H locs 0 0 Q (F0 m 46 ls []) := by
    intro x1 x2 xs hF H locs ls hP hS hl
    unfold F_Mod_spare_m46 at hF
    refine lv_aload_n hx hb d_Mod_spare_46 rfl (lv_at hl 0 rfl) ?_
    refine lv_iload_n hx hb d_Mod_spare_47 rfl (lv_at hl 1 rfl) ?_
    refine lv_iload_n hx hb d_Mod_spare_48 rfl (lv_at hl 2 rfl) ?_
    refine lv_aload_n hx hb d_Mod_spare_49 rfl (lv_at hl 0 rfl) ?_
    refine xk_get (C := R_Mod) (T := F_Mod) (N := 23) hx hb hts i_Mod hown hK hP 0 xw_M_at_0 rfl 0 (by decide) u_666 rfl d_Mod_spare_50 ?_
    obtain ⟨v3, h_v3, hF⟩ := xo_ob hF
    refine xk_goI (xk_runV (As := [.int x1, .int x2, .int (xs.1 0 0)]) (rest := []) hx hb hml hown hts hK hE (fun _ h => h) hP hS ok_Mod_isDirection in_Mod_isDirection u_770 (c_Mod_isDirection l D cI cZ ad A adK adV hDw x1 x2 (xs.1 0 0) xs v3 h_v3) (va_recv hK hP (ci := 4) (q0 := 0) rfl xw_M_at_0) (by decide) rfl hl.1 rfl (Nat.le_of_ble_eq_true rfl) d_Mod_spare_53 ⟨Nat.le_refl _, Nat.le_refl _⟩) (fun _ h => h) hS (fun H locs hP hS => ?_)
    refine lv_if_eq (tgt := 66) hx hb d_Mod_spare_56 (by decide) (fun c_404 => ?_) (fun c_404 => ?_)
    · replace hF := xo_if_t c_404 hF
      refine lv_bipush (v := (-99 : Int32)) hx hb d_Mod_spare_66 (by decide) ?_
      refine lv_istore_n (lv' := [(3, .int (-99 : Int32)), (0, .ref (ad 0)), (1, .int x1), (2, .int x2)]) hx hb d_Mod_spare_68 rfl hl (by decide) rfl (fun ls hl => ?_)
      have lp69 : ∀ (n : Nat) (w69_3 : Int32) (w69_s : XS) (y : ((Int32 × XS) ⊕ XS)), xo_lp (fun q : (Int32 × XS) => F_Mod_spare_b69 x1 x2 q.1 q.2) n (w69_3, w69_s) = some y → (∀ (e3 : Int32) (es : XS), (.inl (e3, es)) = y → ∀ (H : Heap) (locs : List Loc) (ls : Array Slot), va_P D classes (xw_M ad cI cZ es) H → va_S A s.heap H locs → lv_has ls 7 [(3, .int e3)] → W p l e (xk_rm 3 79) s m args below meth c H locs 0 0 Q (F0 m 168 ls [])) → (∀  (es : XS), (.inr es) = y → ∀ (H : Heap) (locs : List Loc) (ls : Array Slot), va_P D classes (xw_M ad cI cZ es) H → va_S A s.heap H locs → lv_has ls 7 [] → W p l e (xk_rm 3 79) s m args below meth c H locs 0 0 Q (F0 m 176 ls [])) → ∀ (H : Heap) (locs : List Loc) (ls : Array Slot), va_P D classes (xw_M ad cI cZ w69_s) H → va_S A s.heap H locs → lv_has ls 7 [(0, .ref (ad 0)), (1, .int x1), (2, .int x2), (3, .int w69_3)] → W p l e (xk_rm 3 79) s m args below meth c H locs 0 0 Q (F0 m 69 ls []) := by
        intro n
        induction n with
        | zero =>
          intro w69_3 w69_s y hL
          exact nomatch (show (none : Option _) = some y from hL)
        | succ n ih =>
          intro w69_3 w69_s y hL kx0 kx1 H locs ls hP hS hl
          obtain ⟨z9, hB, hL⟩ := xo_lp_s hL
          replace hB : F_Mod_spare_b69 x1 x2 w69_3 w69_s = some z9 := hB
          unfold F_Mod_spare_b69 at hB
          refine lv_iload_n hx hb d_Mod_spare_69 rfl (lv_at hl 3 rfl) ?_
          refine lv_bipush (v := (100 : Int32)) hx hb d_Mod_spare_70 (by decide) ?_
          refine lv_icmp_ge (tgt := 176) hx hb d_Mod_spare_72 (by decide) (fun c_405 => ?_) (fun c_405 => ?_)
          · replace hB := xo_if_t c_405 hB
            have q9 := Option.some.inj hB
            subst q9
            replace hL := Option.some.inj (xo_elR hL)
            subst hL
            exact kx1 _ rfl _ _ _ hP hS (lv_sub hl [] rfl)
          · replace hB := xo_if_f c_405 hB
            refine lv_aload_n hx hb d_Mod_spare_75 rfl (lv_at hl 0 rfl) ?_
            refine lv_iload_n hx hb d_Mod_spare_76 rfl (lv_at hl 1 rfl) ?_
            refine lv_iload_n hx hb d_Mod_spare_77 rfl (lv_at hl 2 rfl) ?_
            refine lv_iload_n hx hb d_Mod_spare_78 rfl (lv_at hl 3 rfl) ?_
            obtain ⟨t7, h_t7, hB⟩ := xo_ob hB
            refine xk_goV (xk_runV (As := [.int x1, .int x2, .int w69_3]) (rest := []) hx hb hml hown hts hK hE (fun _ h => h) hP hS ok_Mod_think in_Mod_think u_917 (c_Mod_think l D cI cZ ad A adK adV hDw x1 x2 w69_3 w69_s t7 h_t7) (va_recv hK hP (ci := 4) (q0 := 0) rfl xw_M_at_0) (by decide) rfl hl.1 rfl (Nat.le_of_ble_eq_true rfl) d_Mod_spare_79 ⟨Nat.le_refl _, Nat.le_refl _⟩) (fun _ h => h) hS (fun H locs hP hS => ?_)
            refine lv_aload_n hx hb d_Mod_spare_82 rfl (lv_at hl 0 rfl) ?_
            refine lv_aload_n hx hb d_Mod_spare_83 rfl (lv_at hl 0 rfl) ?_
            refine xk_get (C := R_Mod) (T := F_Mod) (N := 23) hx hb hts i_Mod hown hK hP 0 xw_M_at_0 rfl 0 (by decide) u_666 rfl d_Mod_spare_84 ?_
            refine lv_iconst (v := (1 : Int32)) hx hb d_Mod_spare_87 (by decide) ?_
            refine lv_iadd hx hb d_Mod_spare_88 ?_
            obtain ⟨t8, h_t8, hB⟩ := xo_ob hB
            refine xk_goV (xk_runV (As := [.int ((t7.1 0 0) + (1 : Int32))]) (rest := []) hx hb hml hown hts hK hE (fun _ h => h) hP hS ok_Mod_lay in_Mod_lay u_828 (c_Mod_lay l D cI cZ ad A adK adV hDw ((t7.1 0 0) + (1 : Int32)) t7 t8 h_t8) (va_recv hK hP (ci := 4) (q0 := 0) rfl xw_M_at_0) (by decide) rfl hl.1 rfl (Nat.le_of_ble_eq_true rfl) d_Mod_spare_89 ⟨Nat.le_refl _, Nat.le_refl _⟩) (fun _ h => h) hS (fun H locs hP hS => ?_)
            refine lv_iconst (v := (1 : Int32)) hx hb d_Mod_spare_92 (by decide) ?_
            refine lv_istore (lv' := [(4, .int (1 : Int32)), (0, .ref (ad 0)), (1, .int x1), (2, .int x2), (3, .int w69_3)]) hx hb d_Mod_spare_93 hl (by decide) rfl (fun ls hl => ?_)
            refine lv_iconst (v := (0 : Int32)) hx hb d_Mod_spare_95 (by decide) ?_
            refine lv_istore (lv' := [(5, .int (0 : Int32)), (4, .int (1 : Int32)), (0, .ref (ad 0)), (1, .int x1), (2, .int x2), (3, .int w69_3)]) hx hb d_Mod_spare_96 hl (by decide) rfl (fun ls hl => ?_)
            have lp98 : ∀ (n : Nat) (w98_4 : Int32) (w98_5 : Int32) (y : Int32), xo_lp (fun q : (Int32 × Int32) => F_Mod_spare_b98 x1 x2 w69_3 t8 q.1 q.2) n (w98_4, w98_5) = some y → (∀ (e4 : Int32), e4 = y → ∀ (H : Heap) (locs : List Loc) (ls : Array Slot), va_P D classes (xw_M ad cI cZ t8) H → va_S A s.heap H locs → lv_has ls 7 [(0, .ref (ad 0)), (1, .int x1), (2, .int x2), (3, .int w69_3), (4, .int e4)] → W p l e (xk_rm 3 79) s m args below meth c H locs 0 0 Q (F0 m 163 ls [])) → ∀ (H : Heap) (locs : List Loc) (ls : Array Slot), va_P D classes (xw_M ad cI cZ t8) H → va_S A s.heap H locs → lv_has ls 7 [(0, .ref (ad 0)), (1, .int x1), (2, .int x2), (3, .int w69_3), (4, .int w98_4), (5, .int w98_5)] → W p l e (xk_rm 3 79) s m args below meth c H locs 0 0 Q (F0 m 98 ls []) := by
              intro n
              induction n with
              | zero =>
                intro w98_4 w98_5 y hL
                exact nomatch (show (none : Option _) = some y from hL)
              | succ n ih =>
                intro w98_4 w98_5 y hL kx0 H locs ls hP hS hl
                obtain ⟨z9, hB, hL⟩ := xo_lp_s hL
                replace hB : F_Mod_spare_b98 x1 x2 w69_3 t8 w98_4 w98_5 = some z9 := hB
                unfold F_Mod_spare_b98 at hB
                refine lv_iload hx hb d_Mod_spare_98 (lv_at hl 5 rfl) ?_
                refine lv_aload_n hx hb d_Mod_spare_100 rfl (lv_at hl 0 rfl) ?_
                refine xk_get (C := R_Mod) (T := F_Mod) (N := 23) hx hb hts i_Mod hown hK hP 0 xw_M_at_0 rfl 5 (by decide) u_671 rfl d_Mod_spare_101 ?_
                refine lv_icmp_ge (tgt := 163) hx hb d_Mod_spare_104 (by decide) (fun c_406 => ?_) (fun c_406 => ?_)
                · replace hB := xo_if_t c_406 hB
                  have q9 := Option.some.inj hB
                  subst q9
                  replace hL := Option.some.inj (xo_elR hL)
                  subst hL
                  exact kx0 _ rfl _ _ _ hP hS (lv_sub hl [0, 1, 2, 3, 4] rfl)
                · replace hB := xo_if_f c_406 hB
                  refine lv_aload_n hx hb d_Mod_spare_107 rfl (lv_at hl 0 rfl) ?_
                  refine lv_iload hx hb d_Mod_spare_108 (lv_at hl 5 rfl) ?_
                  obtain ⟨v10, h_v10, hB⟩ := xo_ob hB
                  refine xk_goI (xk_runV (As := [.int w98_5]) (rest := []) hx hb hml hown hts hK hE (fun _ h => h) hP hS ok_Mod_whereIs in_Mod_whereIs u_893 (c_Mod_whereIs l D cI cZ ad A adK adV hDw w98_5 t8 v10 h_v10) (va_recv hK hP (ci := 4) (q0 := 0) rfl xw_M_at_0) (by decide) rfl hl.1 rfl (Nat.le_of_ble_eq_true rfl) d_Mod_spare_110 ⟨Nat.le_refl _, Nat.le_refl _⟩) (fun _ h => h) hS (fun H locs hP hS => ?_)
                  refine lv_istore (lv' := [(6, .int v10), (0, .ref (ad 0)), (1, .int x1), (2, .int x2), (3, .int w69_3), (4, .int w98_4), (5, .int w98_5)]) hx hb d_Mod_spare_113 hl (by decide) rfl (fun ls hl => ?_)
                  refine lv_iload_n hx hb d_Mod_spare_115 rfl (lv_at hl 2 rfl) ?_
                  refine lv_aload_n hx hb d_Mod_spare_116 rfl (lv_at hl 1 rfl) ?_
                  refine xk_get (C := R_Mod) (T := F_Mod) (N := 23) hx hb hts i_Mod hown hK hP 0 xw_M_at_0 rfl 6 (by decide) u_672 rfl d_Mod_spare_117 ?_
                  refine lv_iload hx hb d_Mod_spare_120 (lv_at hl 6 rfl) ?_
                  obtain ⟨v11, h_v11, hB⟩ := xo_ob hB
                  refine xk_iald hx hb hK hP 5 xw_M_at_6 h_v11 d_Mod_spare_122 ?_
                  refine lv_imul hx hb d_Mod_spare_123 ?_
                  refine lv_iload_n hx hb d_Mod_spare_124 rfl (lv_at hl 3 rfl) ?_
                  refine lv_aload_n hx hb d_Mod_spare_125 rfl (lv_at hl 1 rfl) ?_
                  refine xk_get (C := R_Mod) (T := F_Mod) (N := 23) hx hb hts i_Mod hown hK hP 0 xw_M_at_0 rfl 7 (by decide) u_673 rfl d_Mod_spare_126 ?_
                  refine lv_iload hx hb d_Mod_spare_129 (lv_at hl 6 rfl) ?_
                  obtain ⟨v12, h_v12, hB⟩ := xo_ob hB
                  refine xk_iald hx hb hK hP 6 xw_M_at_7 h_v12 d_Mod_spare_131 ?_
                  refine lv_imul hx hb d_Mod_spare_132 ?_
                  refine lv_iadd hx hb d_Mod_spare_133 ?_
                  refine lv_iload_n hx hb d_Mod_spare_134 rfl (lv_at hl 4 rfl) ?_
                  refine lv_icmp_eq (tgt := 154) hx hb d_Mod_spare_135 (by decide) (fun c_407 => ?_) (fun c_407 => ?_)
                  · replace hB := xo_if_t c_407 hB
                    refine lv_iconst (v := (0 : Int32)) hx hb d_Mod_spare_154 (by decide) ?_
                    refine lv_istore (lv' := [(4, .int (0 : Int32)), (6, .int v10), (0, .ref (ad 0)), (1, .int x1), (2, .int x2), (3, .int w69_3), (5, .int w98_5)]) hx hb d_Mod_spare_155 hl (by decide) rfl (fun ls hl => ?_)
                    obtain ⟨v13, e_v13, hB⟩ := xo_nm_e hB
                    refine lv_iinc (v := v13) (lv' := [(5, .int v13), (4, .int (0 : Int32)), (6, .int v10), (0, .ref (ad 0)), (1, .int x1), (2, .int x2), (3, .int w69_3)]) hx hb d_Mod_spare_157 hl (k := 6) rfl (by rw [e_v13]; rfl) (by decide) rfl (fun ls hl => ?_)
                    clear e_v13
                    refine lv_goto (tgt := 98) hx hb d_Mod_spare_160 (by decide) ?_
                    have q9 := Option.some.inj hB
                    subst q9
                    exact ih _ _ _ (xo_elL hL) kx0 _ _ _ hP hS (lv_sub hl [3, 4, 5, 6, 1, 0] rfl)
                  · replace hB := xo_if_f c_407 hB
                    refine lv_iload hx hb d_Mod_spare_138 (lv_at hl 0 rfl) ?_
                    refine lv_bipush (v := (-9 : Int32)) hx hb d_Mod_spare_140 (by decide) ?_
                    refine lv_icmp_eq (tgt := 157) hx hb d_Mod_spare_142 (by decide) (fun c_408 => ?_) (fun c_408 => ?_)
                    · replace hB := xo_if_t c_408 hB
                      obtain ⟨v14, e_v14, hB⟩ := xo_nm_e hB
                      refine lv_iinc (v := v14) (lv' := [(5, .int v14), (6, .int v10), (0, .ref (ad 0)), (1, .int x1), (2, .int x2), (3, .int w69_3), (4, .int w98_4)]) hx hb d_Mod_spare_157 hl (k := 6) rfl (by rw [e_v14]; rfl) (by decide) rfl (fun ls hl => ?_)
                      clear e_v14
                      refine lv_goto (tgt := 98) hx hb d_Mod_spare_160 (by decide) ?_
                      have q9 := Option.some.inj hB
                      subst q9
                      exact ih _ _ _ (xo_elL hL) kx0 _ _ _ hP hS (lv_sub hl [2, 3, 4, 5, 6, 0] rfl)
                    · replace hB := xo_if_f c_408 hB
                      refine lv_aload_n hx hb d_Mod_spare_145 rfl (lv_at hl 1 rfl) ?_
                      refine lv_iload hx hb d_Mod_spare_146 (lv_at hl 0 rfl) ?_
                      obtain ⟨v15, h_v15, hB⟩ := xo_ob hB
                      refine xk_goI (xk_runV (As := [.int v10]) (rest := []) hx hb hml hown hts hK hE (fun _ h => h) hP hS ok_Mod_cuts in_Mod_cuts u_921 (c_Mod_cuts l D cI cZ ad A adK adV hDw v10 t8 v15 h_v15) (va_recv hK hP (ci := 4) (q0 := 0) rfl xw_M_at_0) (by decide) rfl hl.1 rfl (Nat.le_of_ble_eq_true rfl) d_Mod_spare_148 ⟨Nat.le_refl _, Nat.le_refl _⟩) (fun _ h => h) hS (fun H locs hP hS => ?_)
                      refine lv_if_eq (tgt := 157) hx hb d_Mod_spare_151 (by decide) (fun c_409 => ?_) (fun c_409 => ?_)
                      · replace hB := xo_if_t c_409 hB
                        obtain ⟨v16, e_v16, hB⟩ := xo_nm_e hB
                        refine lv_iinc (v := v16) (lv' := [(5, .int v16), (6, .int v10), (0, .ref (ad 0)), (1, .int x1), (2, .int x2), (3, .int w69_3), (4, .int w98_4)]) hx hb d_Mod_spare_157 hl (k := 6) rfl (by rw [e_v16]; rfl) (by decide) rfl (fun ls hl => ?_)
                        clear e_v16
                        refine lv_goto (tgt := 98) hx hb d_Mod_spare_160 (by decide) ?_
                        have q9 := Option.some.inj hB
                        subst q9
                        exact ih _ _ _ (xo_elL hL) kx0 _ _ _ hP hS (lv_sub hl [2, 3, 4, 5, 6, 0] rfl)
                      · replace hB := xo_if_f c_409 hB
                        refine lv_iconst (v := (0 : Int32)) hx hb d_Mod_spare_154 (by decide) ?_
                        refine lv_istore (lv' := [(4, .int (0 : Int32)), (6, .int v10), (0, .ref (ad 0)), (1, .int x1), (2, .int x2), (3, .int w69_3), (5, .int w98_5)]) hx hb d_Mod_spare_155 hl (by decide) rfl (fun ls hl => ?_)
                        obtain ⟨v17, e_v17, hB⟩ := xo_nm_e hB
                        refine lv_iinc (v := v17) (lv' := [(5, .int v17), (4, .int (0 : Int32)), (6, .int v10), (0, .ref (ad 0)), (1, .int x1), (2, .int x2), (3, .int w69_3)]) hx hb d_Mod_spare_157 hl (k := 6) rfl (by rw [e_v17]; rfl) (by decide) rfl (fun ls hl => ?_)
                        clear e_v17
                        refine lv_goto (tgt := 98) hx hb d_Mod_spare_160 (by decide) ?_
                        have q9 := Option.some.inj hB
                        subst q9
                        exact ih _ _ _ (xo_elL hL) kx0 _ _ _ hP hS (lv_sub hl [3, 4, 5, 6, 1, 0] rfl)
            obtain ⟨y98, hL98, hB⟩ := xo_ob hB
            refine lp98 1000000 (1 : Int32) (0 : Int32) y98 hL98 ?_ _ _ _ hP hS (lv_sub hl [2, 3, 4, 5, 1, 0] rfl)
            intro o9 ey H locs ls hP hS hl
            subst ey
            refine lv_iload hx hb d_Mod_spare_163 (lv_at hl 4 rfl) ?_
            refine lv_if_eq (tgt := 170) hx hb d_Mod_spare_165 (by decide) (fun c_410 => ?_) (fun c_410 => ?_)
            · replace hB := xo_if_t c_410 hB
              obtain ⟨v18, e_v18, hB⟩ := xo_nm_e hB
              refine lv_iinc (v := v18) (lv' := [(3, .int v18), (0, .ref (ad 0)), (1, .int x1), (2, .int x2), (4, .int o9)]) hx hb d_Mod_spare_170 hl (k := 3) rfl (by rw [e_v18]; rfl) (by decide) rfl (fun ls hl => ?_)
              clear e_v18
              refine lv_goto (tgt := 69) hx hb d_Mod_spare_173 (by decide) ?_
              have q9 := Option.some.inj hB
              subst q9
              exact ih _ _ _ (xo_elL hL) kx0 kx1 _ _ _ hP hS (lv_sub hl [1, 2, 3, 0] rfl)
            · replace hB := xo_if_f c_410 hB
              have q9 := Option.some.inj hB
              subst q9
              replace hL := Option.some.inj (xo_elR hL)
              subst hL
              exact kx0 _ _ rfl _ _ _ hP hS (lv_sub hl [3] rfl)
      obtain ⟨y69, hL69, hF⟩ := xo_ob hF
      refine lp69 1000000 (-99 : Int32) xs y69 hL69 ?_ ?_ _ _ _ hP hS (lv_sub hl [1, 2, 3, 0] rfl)
      · intro o4 t5 ey H locs ls hP hS hl
        subst ey
        replace hF := xo_u2e (xo_elL hF)
        refine lv_iload_n hx hb d_Mod_spare_168 rfl (lv_at hl 0 rfl) ?_
        obtain ⟨q8, q9⟩ := xo_s2 hF
        subst q8
        subst q9
        exact hret 169 _ _ _ d_Mod_spare_169 rfl hP hS
      · intro t6 ey H locs ls hP hS hl
        subst ey
        replace hF := xo_elR hF
        refine lv_sipush (v := (-999 : Int32)) hx hb d_Mod_spare_176 (by decide) ?_
        obtain ⟨q8, q9⟩ := xo_s2 hF
        subst q8
        subst q9
        exact hret 179 _ _ _ d_Mod_spare_179 rfl hP hS
    · replace hF := xo_if_f c_404 hF
      exact mg59 _ hF _ _ _ hP hS (lv_sub hl [0] rfl)
  have mg31 : ∀ (xs : XS), F_Mod_spare_m31 xs = some (r9, st9) → ∀ (H : Heap) (locs : List Loc) (ls : Array Slot), va_P D classes (xw_M ad cI cZ xs) H → va_S A s.heap H locs → lv_has ls 7 [(0, .ref (ad 0))] → W p l e (xk_rm 3 79) s m args below meth c H locs 0 0 Q (F0 m 31 ls []) := by
    intro xs hF H locs ls hP hS hl
    unfold F_Mod_spare_m31 at hF
    refine lv_aload_n hx hb d_Mod_spare_31 rfl (lv_at hl 0 rfl) ?_
    refine lv_bipush (v := (-6 : Int32)) hx hb d_Mod_spare_32 (by decide) ?_
    obtain ⟨v19, t20, h_v19, hF⟩ := xo_ob2 hF
    refine xk_goI (xk_runV (As := [.int (-6 : Int32)]) (rest := []) hx hb hml hown hts hK hE (fun _ h => h) hP hS ok_Mod_noFar in_Mod_noFar u_790 (c_Mod_noFar l D cI cZ ad A adK adV hDw (-6 : Int32) xs v19 t20 h_v19) (va_recv hK hP (ci := 4) (q0 := 0) rfl xw_M_at_0) (by decide) rfl hl.1 rfl (Nat.le_of_ble_eq_true rfl) d_Mod_spare_34 ⟨Nat.le_refl _, Nat.le_refl _⟩) (fun _ h => h) hS (fun H locs hP hS => ?_)
    obtain ⟨q8, q9⟩ := xo_s2 hF
    subst q8
    subst q9
    exact hret 37 _ _ _ d_Mod_spare_37 rfl hP hS
  have mg12 : ∀ (xs : XS), F_Mod_spare_m12 xs = some (r9, st9) → ∀ (H : Heap) (locs : List Loc) (ls : Array Slot), va_P D classes (xw_M ad cI cZ xs) H → va_S A s.heap H locs → lv_has ls 7 [(0, .ref (ad 0))] → W p l e (xk_rm 3 79) s m args below meth c H locs 0 0 Q (F0 m 12 ls []) := by
    intro xs hF H locs ls hP hS hl
    unfold F_Mod_spare_m12 at hF
    refine lv_aload_n hx hb d_Mod_spare_12 rfl (lv_at hl 0 rfl) ?_
    refine lv_bipush (v := (-4 : Int32)) hx hb d_Mod_spare_13 (by decide) ?_
    obtain ⟨v21, t22, h_v21, hF⟩ := xo_ob2 hF
    refine xk_goI (xk_runV (As := [.int (-4 : Int32)]) (rest := []) hx hb hml hown hts hK hE (fun _ h => h) hP hS ok_Mod_noFar in_Mod_noFar u_790 (c_Mod_noFar l D cI cZ ad A adK adV hDw (-4 : Int32) xs v21 t22 h_v21) (va_recv hK hP (ci := 4) (q0 := 0) rfl xw_M_at_0) (by decide) rfl hl.1 rfl (Nat.le_of_ble_eq_true rfl) d_Mod_spare_15 ⟨Nat.le_refl _, Nat.le_refl _⟩) (fun _ h => h) hS (fun H locs hP hS => ?_)
    obtain ⟨q8, q9⟩ := xo_s2 hF
    subst q8
    subst q9
    exact hret 18 _ _ _ d_Mod_spare_18 rfl hP hS
  refine lv_iload_n hx hb d_Mod_spare_0 rfl (lv_at hl 1 rfl) ?_
  refine lv_bipush (v := (-9 : Int32)) hx hb d_Mod_spare_1 (by decide) ?_
  refine lv_icmp_lt (tgt := 12) hx hb d_Mod_spare_3 (by decide) (fun c_411 => ?_) (fun c_411 => ?_)
  · replace hF := xo_if_t c_411 hF
    exact mg12 _ hF _ _ _ hP hS (lv_sub hl [0] rfl)
  · replace hF := xo_if_f c_411 hF
    refine lv_iload_n hx hb d_Mod_spare_6 rfl (lv_at hl 2 rfl) ?_
    refine lv_bipush (v := (-9 : Int32)) hx hb d_Mod_spare_7 (by decide) ?_
    refine lv_icmp_ge (tgt := 19) hx hb d_Mod_spare_9 (by decide) (fun c_412 => ?_) (fun c_412 => ?_)
    · replace hF := xo_if_t c_412 hF
      refine lv_iload_n hx hb d_Mod_spare_19 rfl (lv_at hl 1 rfl) ?_
      refine lv_bipush (v := (9 : Int32)) hx hb d_Mod_spare_20 (by decide) ?_
      refine lv_icmp_gt (tgt := 31) hx hb d_Mod_spare_22 (by decide) (fun c_413 => ?_) (fun c_413 => ?_)
      · replace hF := xo_if_t c_413 hF
        exact mg31 _ hF _ _ _ hP hS (lv_sub hl [0] rfl)
      · replace hF := xo_if_f c_413 hF
        refine lv_iload_n hx hb d_Mod_spare_25 rfl (lv_at hl 2 rfl) ?_
        refine lv_bipush (v := (9 : Int32)) hx hb d_Mod_spare_26 (by decide) ?_
        refine lv_icmp_le (tgt := 38) hx hb d_Mod_spare_28 (by decide) (fun c_414 => ?_) (fun c_414 => ?_)
        · replace hF := xo_if_t c_414 hF
          refine lv_iload_n hx hb d_Mod_spare_38 rfl (lv_at hl 1 rfl) ?_
          refine lv_if_ne (tgt := 46) hx hb d_Mod_spare_39 (by decide) (fun c_415 => ?_) (fun c_415 => ?_)
          · replace hF := xo_if_f c_415 hF
            exact mg46 _ _ _ hF _ _ _ hP hS (lv_sub hl [0, 1, 2] rfl)
          · replace hF := xo_if_t c_415 hF
            refine lv_iload_n hx hb d_Mod_spare_42 rfl (lv_at hl 2 rfl) ?_
            refine lv_if_eq (tgt := 59) hx hb d_Mod_spare_43 (by decide) (fun c_416 => ?_) (fun c_416 => ?_)
            · replace hF := xo_if_t c_416 hF
              exact mg59 _ hF _ _ _ hP hS (lv_sub hl [0] rfl)
            · replace hF := xo_if_f c_416 hF
              exact mg46 _ _ _ hF _ _ _ hP hS (lv_sub hl [0, 1, 2] rfl)
        · replace hF := xo_if_f c_414 hF
          exact mg31 _ hF _ _ _ hP hS (lv_sub hl [0] rfl)
    · replace hF := xo_if_f c_412 hF
      exact mg12 _ hF _ _ _ hP hS (lv_sub hl [0] rfl)
set_option maxHeartbeats 4000000 in
set_option maxRecDepth 100000 in
theorem c_Mod_most (l : Launch) (D : va_G) (cI cZ : ClassId) (ad : Nat → Nat) (A : Nat → Prop) (adK adV : Nat → Nat) (hDw : ∀ st : XS, va_D A (xw_M ad cI cZ st)) (x1 : Int32) (x2 : Int32) (st : XS) (r9 : Int32) (st9 : XS) (hF : F_Mod_most x1 x2 st = some (r9, st9)) : K_I l D cI cZ A adK adV (xw_M ad cI cZ) y_Mod_most b_Mod_most 8 (some .int) 2 50 [.ref (ad 0), .int x1, .int x2] st r9 st9 := by
  refine xk_startI (by decide) .int rfl (Nat.le_of_ble_eq_true rfl) ?_
  intro p e s m args below meth c Q ls hx hb hml hown hts hK hE hP hS hl hret
  replace hown : s.vm.findClass R_Mod = some m.cls := hown
  replace hl : lv_has ls 8 [(0, .ref (ad 0)), (1, .int x1), (2, .int x2)] := hl
  unfold F_Mod_most at hF
  have mg59 : ∀ (xs : XS), F_Mod_most_m59 xs = some (r9, st9) → ∀ (H : Heap) (locs : List Loc) (ls : Array Slot), va_P D classes (xw_M ad cI cZ xs) H → va_S A s.heap H locs → lv_has ls 8 [(0, .ref (ad 0))] → W p l e (xk_rm 2 50) s m args below meth c H locs 0 0 Q (F0 m 59 ls []) := by
    intro xs hF H locs ls hP hS hl
    unfold F_Mod_most_m59 at hF
    refine lv_aload_n hx hb d_Mod_most_59 rfl (lv_at hl 0 rfl) ?_
    refine lv_bipush (v := (-3 : Int32)) hx hb d_Mod_most_60 (by decide) ?_
    obtain ⟨v1, t2, h_v1, hF⟩ := xo_ob2 hF
    refine xk_goI (xk_runV (As := [.int (-3 : Int32)]) (rest := []) hx hb hml hown hts hK hE (fun _ h => h) hP hS ok_Mod_no in_Mod_no u_741 (c_Mod_no l D cI cZ ad A adK adV hDw (-3 : Int32) xs v1 t2 h_v1) (va_recv hK hP (ci := 4) (q0 := 0) rfl xw_M_at_0) (by decide) rfl hl.1 rfl (Nat.le_of_ble_eq_true rfl) d_Mod_most_62 ⟨Nat.le_refl _, Nat.le_refl _⟩) (fun _ h => h) hS (fun H locs hP hS => ?_)
    obtain ⟨q8, q9⟩ := xo_s2 hF
    subst q8
    subst q9
    exact hret 65 _ _ _ d_Mod_most_65 rfl hP hS
  have mg46 : ∀ (x1 : Int32) (x2 : Int32) (xs : XS), F_Mod_most_m46 x1 x2 xs = some (r9, st9) → ∀ (H : Heap) (locs : List Loc) (ls : Array Slot), va_P D classes (xw_M ad cI cZ xs) H → va_S A s.heap H locs → lv_has ls 8 [(0, .ref (ad 0)), (1, .int x1), (2, .int x2)] → W p l e (xk_rm 2 50) s m args below meth c H locs 0 0 Q (F0 m 46 ls []) := by
    intro x1 x2 xs hF H locs ls hP hS hl
    unfold F_Mod_most_m46 at hF
    refine lv_aload_n hx hb d_Mod_most_46 rfl (lv_at hl 0 rfl) ?_
    refine lv_iload_n hx hb d_Mod_most_47 rfl (lv_at hl 1 rfl) ?_
    refine lv_iload_n hx hb d_Mod_most_48 rfl (lv_at hl 2 rfl) ?_
    refine lv_aload_n hx hb d_Mod_most_49 rfl (lv_at hl 0 rfl) ?_
    refine xk_get (C := R_Mod) (T := F_Mod) (N := 23) hx hb hts i_Mod hown hK hP 0 xw_M_at_0 rfl 0 (by decide) u_666 rfl d_Mod_most_50 ?_
    obtain ⟨v3, h_v3, hF⟩ := xo_ob hF
    refine xk_goI (xk_runV (As := [.int x1, .int x2, .int (xs.1 0 0)]) (rest := []) hx hb hml hown hts hK hE (fun _ h => h) hP hS ok_Mod_isDirection in_Mod_isDirection u_770 (c_Mod_isDirection l D cI cZ ad A adK adV hDw x1 x2 (xs.1 0 0) xs v3 h_v3) (va_recv hK hP (ci := 4) (q0 := 0) rfl xw_M_at_0) (by decide) rfl hl.1 rfl (Nat.le_of_ble_eq_true rfl) d_Mod_most_53 ⟨Nat.le_refl _, Nat.le_refl _⟩) (fun _ h => h) hS (fun H locs hP hS => ?_)
    refine lv_if_eq (tgt := 66) hx hb d_Mod_most_56 (by decide) (fun c_417 => ?_) (fun c_417 => ?_)
    · replace hF := xo_if_t c_417 hF
      refine lv_iconst (v := (0 : Int32)) hx hb d_Mod_most_66 (by decide) ?_
      refine lv_istore_n (lv' := [(3, .int (0 : Int32)), (0, .ref (ad 0)), (1, .int x1), (2, .int x2)]) hx hb d_Mod_most_67 rfl hl (by decide) rfl (fun ls hl => ?_)
      refine lv_bipush (v := (-99 : Int32)) hx hb d_Mod_most_68 (by decide) ?_
      refine lv_istore (lv' := [(4, .int (-99 : Int32)), (3, .int (0 : Int32)), (0, .ref (ad 0)), (1, .int x1), (2, .int x2)]) hx hb d_Mod_most_70 hl (by decide) rfl (fun ls hl => ?_)
      have lp72 : ∀ (n : Nat) (w72_3 : Int32) (w72_4 : Int32) (w72_s : XS) (y : (Int32 × XS)), xo_lp (fun q : (Int32 × Int32 × XS) => F_Mod_most_b72 x1 x2 q.1 q.2.1 q.2.2) n (w72_3, w72_4, w72_s) = some y → (∀ (e3 : Int32) (es : XS), (e3, es) = y → ∀ (H : Heap) (locs : List Loc) (ls : Array Slot), va_P D classes (xw_M ad cI cZ es) H → va_S A s.heap H locs → lv_has ls 8 [(3, .int e3)] → W p l e (xk_rm 2 50) s m args below meth c H locs 0 0 Q (F0 m 166 ls [])) → ∀ (H : Heap) (locs : List Loc) (ls : Array Slot), va_P D classes (xw_M ad cI cZ w72_s) H → va_S A s.heap H locs → lv_has ls 8 [(0, .ref (ad 0)), (1, .int x1), (2, .int x2), (3, .int w72_3), (4, .int w72_4)] → W p l e (xk_rm 2 50) s m args below meth c H locs 0 0 Q (F0 m 72 ls []) := by
        intro n
        induction n with
        | zero =>
          intro w72_3 w72_4 w72_s y hL
          exact nomatch (show (none : Option _) = some y from hL)
        | succ n ih =>
          intro w72_3 w72_4 w72_s y hL kx0 H locs ls hP hS hl
          obtain ⟨z9, hB, hL⟩ := xo_lp_s hL
          replace hB : F_Mod_most_b72 x1 x2 w72_3 w72_4 w72_s = some z9 := hB
          unfold F_Mod_most_b72 at hB
          refine lv_iload hx hb d_Mod_most_72 (lv_at hl 4 rfl) ?_
          refine lv_bipush (v := (100 : Int32)) hx hb d_Mod_most_74 (by decide) ?_
          refine lv_icmp_ge (tgt := 166) hx hb d_Mod_most_76 (by decide) (fun c_418 => ?_) (fun c_418 => ?_)
          · replace hB := xo_if_t c_418 hB
            have q9 := Option.some.inj hB
            subst q9
            replace hL := Option.some.inj (xo_elR hL)
            subst hL
            exact kx0 _ _ rfl _ _ _ hP hS (lv_sub hl [3] rfl)
          · replace hB := xo_if_f c_418 hB
            refine lv_aload_n hx hb d_Mod_most_79 rfl (lv_at hl 0 rfl) ?_
            refine lv_iload_n hx hb d_Mod_most_80 rfl (lv_at hl 1 rfl) ?_
            refine lv_iload_n hx hb d_Mod_most_81 rfl (lv_at hl 2 rfl) ?_
            refine lv_iload hx hb d_Mod_most_82 (lv_at hl 4 rfl) ?_
            obtain ⟨t6, h_t6, hB⟩ := xo_ob hB
            refine xk_goV (xk_runV (As := [.int x1, .int x2, .int w72_4]) (rest := []) hx hb hml hown hts hK hE (fun _ h => h) hP hS ok_Mod_think in_Mod_think u_917 (c_Mod_think l D cI cZ ad A adK adV hDw x1 x2 w72_4 w72_s t6 h_t6) (va_recv hK hP (ci := 4) (q0 := 0) rfl xw_M_at_0) (by decide) rfl hl.1 rfl (Nat.le_of_ble_eq_true rfl) d_Mod_most_84 ⟨Nat.le_refl _, Nat.le_refl _⟩) (fun _ h => h) hS (fun H locs hP hS => ?_)
            refine lv_iconst (v := (0 : Int32)) hx hb d_Mod_most_87 (by decide) ?_
            refine lv_istore (lv' := [(5, .int (0 : Int32)), (0, .ref (ad 0)), (1, .int x1), (2, .int x2), (3, .int w72_3), (4, .int w72_4)]) hx hb d_Mod_most_88 hl (by decide) rfl (fun ls hl => ?_)
            refine lv_iconst (v := (0 : Int32)) hx hb d_Mod_most_90 (by decide) ?_
            refine lv_istore (lv' := [(6, .int (0 : Int32)), (5, .int (0 : Int32)), (0, .ref (ad 0)), (1, .int x1), (2, .int x2), (3, .int w72_3), (4, .int w72_4)]) hx hb d_Mod_most_91 hl (by decide) rfl (fun ls hl => ?_)
            have lp93 : ∀ (n : Nat) (w93_5 : Int32) (w93_6 : Int32) (y : Int32), xo_lp (fun q : (Int32 × Int32) => F_Mod_most_b93 x1 x2 w72_3 w72_4 t6 q.1 q.2) n (w93_5, w93_6) = some y → (∀ (e5 : Int32), e5 = y → ∀ (H : Heap) (locs : List Loc) (ls : Array Slot), va_P D classes (xw_M ad cI cZ t6) H → va_S A s.heap H locs → lv_has ls 8 [(0, .ref (ad 0)), (1, .int x1), (2, .int x2), (3, .int w72_3), (4, .int w72_4), (5, .int e5)] → W p l e (xk_rm 2 50) s m args below meth c H locs 0 0 Q (F0 m 153 ls [])) → ∀ (H : Heap) (locs : List Loc) (ls : Array Slot), va_P D classes (xw_M ad cI cZ t6) H → va_S A s.heap H locs → lv_has ls 8 [(0, .ref (ad 0)), (1, .int x1), (2, .int x2), (3, .int w72_3), (4, .int w72_4), (5, .int w93_5), (6, .int w93_6)] → W p l e (xk_rm 2 50) s m args below meth c H locs 0 0 Q (F0 m 93 ls []) := by
              intro n
              induction n with
              | zero =>
                intro w93_5 w93_6 y hL
                exact nomatch (show (none : Option _) = some y from hL)
              | succ n ih =>
                intro w93_5 w93_6 y hL kx0 H locs ls hP hS hl
                obtain ⟨z9, hB, hL⟩ := xo_lp_s hL
                replace hB : F_Mod_most_b93 x1 x2 w72_3 w72_4 t6 w93_5 w93_6 = some z9 := hB
                unfold F_Mod_most_b93 at hB
                refine lv_iload hx hb d_Mod_most_93 (lv_at hl 6 rfl) ?_
                refine lv_aload_n hx hb d_Mod_most_95 rfl (lv_at hl 0 rfl) ?_
                refine xk_get (C := R_Mod) (T := F_Mod) (N := 23) hx hb hts i_Mod hown hK hP 0 xw_M_at_0 rfl 0 (by decide) u_666 rfl d_Mod_most_96 ?_
                refine lv_icmp_ge (tgt := 153) hx hb d_Mod_most_99 (by decide) (fun c_419 => ?_) (fun c_419 => ?_)
                · replace hB := xo_if_t c_419 hB
                  have q9 := Option.some.inj hB
                  subst q9
                  replace hL := Option.some.inj (xo_elR hL)
                  subst hL
                  exact kx0 _ rfl _ _ _ hP hS (lv_sub hl [0, 1, 2, 3, 4, 5] rfl)
                · replace hB := xo_if_f c_419 hB
                  refine lv_iconst (v := (0 : Int32)) hx hb d_Mod_most_102 (by decide) ?_
                  refine lv_istore (lv' := [(7, .int (0 : Int32)), (0, .ref (ad 0)), (1, .int x1), (2, .int x2), (3, .int w72_3), (4, .int w72_4), (5, .int w93_5), (6, .int w93_6)]) hx hb d_Mod_most_103 hl (by decide) rfl (fun ls hl => ?_)
                  have lp105 : ∀ (n : Nat) (w105_5 : Int32) (w105_7 : Int32) (y : Int32), xo_lp (fun q : (Int32 × Int32) => F_Mod_most_b105 x1 x2 w72_3 w72_4 w93_6 t6 q.1 q.2) n (w105_5, w105_7) = some y → (∀ (e5 : Int32), e5 = y → ∀ (H : Heap) (locs : List Loc) (ls : Array Slot), va_P D classes (xw_M ad cI cZ t6) H → va_S A s.heap H locs → lv_has ls 8 [(0, .ref (ad 0)), (1, .int x1), (2, .int x2), (3, .int w72_3), (4, .int w72_4), (5, .int e5), (6, .int w93_6)] → W p l e (xk_rm 2 50) s m args below meth c H locs 0 0 Q (F0 m 147 ls [])) → ∀ (H : Heap) (locs : List Loc) (ls : Array Slot), va_P D classes (xw_M ad cI cZ t6) H → va_S A s.heap H locs → lv_has ls 8 [(0, .ref (ad 0)), (1, .int x1), (2, .int x2), (3, .int w72_3), (4, .int w72_4), (5, .int w105_5), (6, .int w93_6), (7, .int w105_7)] → W p l e (xk_rm 2 50) s m args below meth c H locs 0 0 Q (F0 m 105 ls []) := by
                    intro n
                    induction n with
                    | zero =>
                      intro w105_5 w105_7 y hL
                      exact nomatch (show (none : Option _) = some y from hL)
                    | succ n ih =>
                      intro w105_5 w105_7 y hL kx0 H locs ls hP hS hl
                      obtain ⟨z9, hB, hL⟩ := xo_lp_s hL
                      replace hB : F_Mod_most_b105 x1 x2 w72_3 w72_4 w93_6 t6 w105_5 w105_7 = some z9 := hB
                      unfold F_Mod_most_b105 at hB
                      refine lv_iload hx hb d_Mod_most_105 (lv_at hl 7 rfl) ?_
                      refine lv_iload hx hb d_Mod_most_107 (lv_at hl 6 rfl) ?_
                      refine lv_icmp_ge (tgt := 147) hx hb d_Mod_most_109 (by decide) (fun c_420 => ?_) (fun c_420 => ?_)
                      · replace hB := xo_if_t c_420 hB
                        have q9 := Option.some.inj hB
                        subst q9
                        replace hL := Option.some.inj (xo_elR hL)
                        subst hL
                        exact kx0 _ rfl _ _ _ hP hS (lv_sub hl [0, 1, 2, 3, 4, 5, 6] rfl)
                      · replace hB := xo_if_f c_420 hB
                        refine lv_aload_n hx hb d_Mod_most_112 rfl (lv_at hl 0 rfl) ?_
                        refine lv_iload hx hb d_Mod_most_113 (lv_at hl 7 rfl) ?_
                        refine lv_iload hx hb d_Mod_most_115 (lv_at hl 6 rfl) ?_
                        obtain ⟨v9, h_v9, hB⟩ := xo_ob hB
                        refine xk_goI (xk_runV (As := [.int w105_7, .int w93_6]) (rest := []) hx hb hml hown hts hK hE (fun _ h => h) hP hS ok_Mod_isFirst in_Mod_isFirst u_803 (c_Mod_isFirst l D cI cZ ad A adK adV hDw w105_7 w93_6 t6 v9 h_v9) (va_recv hK hP (ci := 4) (q0 := 0) rfl xw_M_at_0) (by decide) rfl hl.1 rfl (Nat.le_of_ble_eq_true rfl) d_Mod_most_117 ⟨Nat.le_refl _, Nat.le_refl _⟩) (fun _ h => h) hS (fun H locs hP hS => ?_)
                        refine lv_if_eq (tgt := 141) hx hb d_Mod_most_120 (by decide) (fun c_421 => ?_) (fun c_421 => ?_)
                        · replace hB := xo_if_t c_421 hB
                          obtain ⟨v10, e_v10, hB⟩ := xo_nm_e hB
                          refine lv_iinc (v := v10) (lv' := [(7, .int v10), (0, .ref (ad 0)), (1, .int x1), (2, .int x2), (3, .int w72_3), (4, .int w72_4), (5, .int w105_5), (6, .int w93_6)]) hx hb d_Mod_most_141 hl (k := 7) rfl (by rw [e_v10]; rfl) (by decide) rfl (fun ls hl => ?_)
                          clear e_v10
                          refine lv_goto (tgt := 105) hx hb d_Mod_most_144 (by decide) ?_
                          have q9 := Option.some.inj hB
                          subst q9
                          exact ih _ _ _ (xo_elL hL) kx0 _ _ _ hP hS (lv_sub hl [1, 2, 3, 4, 5, 6, 7, 0] rfl)
                        · replace hB := xo_if_f c_421 hB
                          refine lv_aload_n hx hb d_Mod_most_123 rfl (lv_at hl 0 rfl) ?_
                          refine lv_aload_n hx hb d_Mod_most_124 rfl (lv_at hl 0 rfl) ?_
                          refine xk_get (C := R_Mod) (T := F_Mod) (N := 23) hx hb hts i_Mod hown hK hP 0 xw_M_at_0 rfl 0 (by decide) u_666 rfl d_Mod_most_125 ?_
                          refine lv_iload hx hb d_Mod_most_128 (lv_at hl 7 rfl) ?_
                          refine lv_iload hx hb d_Mod_most_130 (lv_at hl 6 rfl) ?_
                          obtain ⟨v11, h_v11, hB⟩ := xo_ob hB
                          refine xk_goI (xk_runV (As := [.int (t6.1 0 0), .int w105_7, .int w93_6]) (rest := []) hx hb hml hown hts hK hE (fun _ h => h) hP hS ok_Mod_sideOfCrossing in_Mod_sideOfCrossing u_807 (c_Mod_sideOfCrossing l D cI cZ ad A adK adV hDw (t6.1 0 0) w105_7 w93_6 t6 v11 h_v11) (va_recv hK hP (ci := 4) (q0 := 0) rfl xw_M_at_0) (by decide) rfl hl.1 rfl (Nat.le_of_ble_eq_true rfl) d_Mod_most_132 ⟨Nat.le_refl _, Nat.le_refl _⟩) (fun _ h => h) hS (fun H locs hP hS => ?_)
                          refine lv_if_ne (tgt := 141) hx hb d_Mod_most_135 (by decide) (fun c_422 => ?_) (fun c_422 => ?_)
                          · replace hB := xo_if_f c_422 hB
                            obtain ⟨v14, e_v14, hB⟩ := xo_nm_e hB
                            refine lv_iinc (v := v14) (lv' := [(7, .int v14), (0, .ref (ad 0)), (1, .int x1), (2, .int x2), (3, .int w72_3), (4, .int w72_4), (5, .int w105_5), (6, .int w93_6)]) hx hb d_Mod_most_141 hl (k := 7) rfl (by rw [e_v14]; rfl) (by decide) rfl (fun ls hl => ?_)
                            clear e_v14
                            refine lv_goto (tgt := 105) hx hb d_Mod_most_144 (by decide) ?_
                            have q9 := Option.some.inj hB
                            subst q9
                            exact ih _ _ _ (xo_elL hL) kx0 _ _ _ hP hS (lv_sub hl [1, 2, 3, 4, 5, 6, 7, 0] rfl)
                          · replace hB := xo_if_t c_422 hB
                            obtain ⟨v12, e_v12, hB⟩ := xo_nm_e hB
                            refine lv_iinc (v := v12) (lv' := [(5, .int v12), (0, .ref (ad 0)), (1, .int x1), (2, .int x2), (3, .int w72_3), (4, .int w72_4), (6, .int w93_6), (7, .int w105_7)]) hx hb d_Mod_most_138 hl (k := 5) rfl (by rw [e_v12]; rfl) (by decide) rfl (fun ls hl => ?_)
                            clear e_v12
                            obtain ⟨v13, e_v13, hB⟩ := xo_nm_e hB
                            refine lv_iinc (v := v13) (lv' := [(7, .int v13), (5, .int v12), (0, .ref (ad 0)), (1, .int x1), (2, .int x2), (3, .int w72_3), (4, .int w72_4), (6, .int w93_6)]) hx hb d_Mod_most_141 hl (k := 7) rfl (by rw [e_v13]; rfl) (by decide) rfl (fun ls hl => ?_)
                            clear e_v13
                            refine lv_goto (tgt := 105) hx hb d_Mod_most_144 (by decide) ?_
                            have q9 := Option.some.inj hB
                            subst q9
                            exact ih _ _ _ (xo_elL hL) kx0 _ _ _ hP hS (lv_sub hl [2, 3, 4, 5, 6, 1, 7, 0] rfl)
                  obtain ⟨y105, hL105, hB⟩ := xo_ob hB
                  refine lp105 1000000 w93_5 (0 : Int32) y105 hL105 ?_ _ _ _ hP hS (lv_sub hl [1, 2, 3, 4, 5, 6, 7, 0] rfl)
                  intro o8 ey H locs ls hP hS hl
                  subst ey
                  obtain ⟨v15, e_v15, hB⟩ := xo_nm_e hB
                  refine lv_iinc (v := v15) (lv' := [(6, .int v15), (0, .ref (ad 0)), (1, .int x1), (2, .int x2), (3, .int w72_3), (4, .int w72_4), (5, .int o8)]) hx hb d_Mod_most_147 hl (k := 6) rfl (by rw [e_v15]; rfl) (by decide) rfl (fun ls hl => ?_)
                  clear e_v15
                  refine lv_goto (tgt := 93) hx hb d_Mod_most_150 (by decide) ?_
                  have q9 := Option.some.inj hB
                  subst q9
                  exact ih _ _ _ (xo_elL hL) kx0 _ _ _ hP hS (lv_sub hl [1, 2, 3, 4, 5, 6, 0] rfl)
            obtain ⟨y93, hL93, hB⟩ := xo_ob hB
            refine lp93 1000000 (0 : Int32) (0 : Int32) y93 hL93 ?_ _ _ _ hP hS (lv_sub hl [2, 3, 4, 5, 6, 1, 0] rfl)
            intro o7 ey H locs ls hP hS hl
            subst ey
            refine lv_iload_n hx hb d_Mod_most_153 rfl (lv_at hl 3 rfl) ?_
            refine lv_iload hx hb d_Mod_most_154 (lv_at hl 5 rfl) ?_
            refine va_mmax hx hb (by rw [hml]; exact hl.1.symm) hown (hts _ u_ms837_max) (hts _ u_st_max) (hts _ u_in_Math) (hts _ u_co_max) (by decide) (Nat.le_of_ble_eq_true rfl) (Nat.le_refl _) (Nat.le_refl _) d_Mod_most_156 ?_
            refine lv_topi (fun v16 e_v16 => ?_)
            replace hB := xo_nm_u hB e_v16
            clear e_v16
            refine lv_istore_n (lv' := [(3, .int v16), (0, .ref (ad 0)), (1, .int x1), (2, .int x2), (4, .int w72_4), (5, .int o7)]) hx hb d_Mod_most_159 rfl hl (by decide) rfl (fun ls hl => ?_)
            obtain ⟨v17, e_v17, hB⟩ := xo_nm_e hB
            refine lv_iinc (v := v17) (lv' := [(4, .int v17), (3, .int v16), (0, .ref (ad 0)), (1, .int x1), (2, .int x2), (5, .int o7)]) hx hb d_Mod_most_160 hl (k := 4) rfl (by rw [e_v17]; rfl) (by decide) rfl (fun ls hl => ?_)
            clear e_v17
            refine lv_goto (tgt := 72) hx hb d_Mod_most_163 (by decide) ?_
            have q9 := Option.some.inj hB
            subst q9
            exact ih _ _ _ _ (xo_elL hL) kx0 _ _ _ hP hS (lv_sub hl [2, 3, 4, 1, 0] rfl)
      obtain ⟨y72, hL72, hF⟩ := xo_ob hF
      refine lp72 1000000 (0 : Int32) (-99 : Int32) xs y72 hL72 ?_ _ _ _ hP hS (lv_sub hl [2, 3, 4, 1, 0] rfl)
      intro o4 t5 ey H locs ls hP hS hl
      subst ey
      replace hF := xo_u2e hF
      refine lv_iload_n hx hb d_Mod_most_166 rfl (lv_at hl 0 rfl) ?_
      obtain ⟨q8, q9⟩ := xo_s2 hF
      subst q8
      subst q9
      exact hret 167 _ _ _ d_Mod_most_167 rfl hP hS
    · replace hF := xo_if_f c_417 hF
      exact mg59 _ hF _ _ _ hP hS (lv_sub hl [0] rfl)
  have mg31 : ∀ (xs : XS), F_Mod_most_m31 xs = some (r9, st9) → ∀ (H : Heap) (locs : List Loc) (ls : Array Slot), va_P D classes (xw_M ad cI cZ xs) H → va_S A s.heap H locs → lv_has ls 8 [(0, .ref (ad 0))] → W p l e (xk_rm 2 50) s m args below meth c H locs 0 0 Q (F0 m 31 ls []) := by
    intro xs hF H locs ls hP hS hl
    unfold F_Mod_most_m31 at hF
    refine lv_aload_n hx hb d_Mod_most_31 rfl (lv_at hl 0 rfl) ?_
    refine lv_bipush (v := (-6 : Int32)) hx hb d_Mod_most_32 (by decide) ?_
    obtain ⟨v18, t19, h_v18, hF⟩ := xo_ob2 hF
    refine xk_goI (xk_runV (As := [.int (-6 : Int32)]) (rest := []) hx hb hml hown hts hK hE (fun _ h => h) hP hS ok_Mod_no in_Mod_no u_741 (c_Mod_no l D cI cZ ad A adK adV hDw (-6 : Int32) xs v18 t19 h_v18) (va_recv hK hP (ci := 4) (q0 := 0) rfl xw_M_at_0) (by decide) rfl hl.1 rfl (Nat.le_of_ble_eq_true rfl) d_Mod_most_34 ⟨Nat.le_refl _, Nat.le_refl _⟩) (fun _ h => h) hS (fun H locs hP hS => ?_)
    obtain ⟨q8, q9⟩ := xo_s2 hF
    subst q8
    subst q9
    exact hret 37 _ _ _ d_Mod_most_37 rfl hP hS
  have mg12 : ∀ (xs : XS), F_Mod_most_m12 xs = some (r9, st9) → ∀ (H : Heap) (locs : List Loc) (ls : Array Slot), va_P D classes (xw_M ad cI cZ xs) H → va_S A s.heap H locs → lv_has ls 8 [(0, .ref (ad 0))] → W p l e (xk_rm 2 50) s m args below meth c H locs 0 0 Q (F0 m 12 ls []) := by
    intro xs hF H locs ls hP hS hl
    unfold F_Mod_most_m12 at hF
    refine lv_aload_n hx hb d_Mod_most_12 rfl (lv_at hl 0 rfl) ?_
    refine lv_bipush (v := (-4 : Int32)) hx hb d_Mod_most_13 (by decide) ?_
    obtain ⟨v20, t21, h_v20, hF⟩ := xo_ob2 hF
    refine xk_goI (xk_runV (As := [.int (-4 : Int32)]) (rest := []) hx hb hml hown hts hK hE (fun _ h => h) hP hS ok_Mod_no in_Mod_no u_741 (c_Mod_no l D cI cZ ad A adK adV hDw (-4 : Int32) xs v20 t21 h_v20) (va_recv hK hP (ci := 4) (q0 := 0) rfl xw_M_at_0) (by decide) rfl hl.1 rfl (Nat.le_of_ble_eq_true rfl) d_Mod_most_15 ⟨Nat.le_refl _, Nat.le_refl _⟩) (fun _ h => h) hS (fun H locs hP hS => ?_)
    obtain ⟨q8, q9⟩ := xo_s2 hF
    subst q8
    subst q9
    exact hret 18 _ _ _ d_Mod_most_18 rfl hP hS
  refine lv_iload_n hx hb d_Mod_most_0 rfl (lv_at hl 1 rfl) ?_
  refine lv_bipush (v := (-9 : Int32)) hx hb d_Mod_most_1 (by decide) ?_
  refine lv_icmp_lt (tgt := 12) hx hb d_Mod_most_3 (by decide) (fun c_423 => ?_) (fun c_423 => ?_)
  · replace hF := xo_if_t c_423 hF
    exact mg12 _ hF _ _ _ hP hS (lv_sub hl [0] rfl)
  · replace hF := xo_if_f c_423 hF
    refine lv_iload_n hx hb d_Mod_most_6 rfl (lv_at hl 2 rfl) ?_
    refine lv_bipush (v := (-9 : Int32)) hx hb d_Mod_most_7 (by decide) ?_
    refine lv_icmp_ge (tgt := 19) hx hb d_Mod_most_9 (by decide) (fun c_424 => ?_) (fun c_424 => ?_)
    · replace hF := xo_if_t c_424 hF
      refine lv_iload_n hx hb d_Mod_most_19 rfl (lv_at hl 1 rfl) ?_
      refine lv_bipush (v := (9 : Int32)) hx hb d_Mod_most_20 (by decide) ?_
      refine lv_icmp_gt (tgt := 31) hx hb d_Mod_most_22 (by decide) (fun c_425 => ?_) (fun c_425 => ?_)
      · replace hF := xo_if_t c_425 hF
        exact mg31 _ hF _ _ _ hP hS (lv_sub hl [0] rfl)
      · replace hF := xo_if_f c_425 hF
        refine lv_iload_n hx hb d_Mod_most_25 rfl (lv_at hl 2 rfl) ?_
        refine lv_bipush (v := (9 : Int32)) hx hb d_Mod_most_26 (by decide) ?_
        refine lv_icmp_le (tgt := 38) hx hb d_Mod_most_28 (by decide) (fun c_426 => ?_) (fun c_426 => ?_)
        · replace hF := xo_if_t c_426 hF
          refine lv_iload_n hx hb d_Mod_most_38 rfl (lv_at hl 1 rfl) ?_
          refine lv_if_ne (tgt := 46) hx hb d_Mod_most_39 (by decide) (fun c_427 => ?_) (fun c_427 => ?_)
          · replace hF := xo_if_f c_427 hF
            exact mg46 _ _ _ hF _ _ _ hP hS (lv_sub hl [0, 1, 2] rfl)
          · replace hF := xo_if_t c_427 hF
            refine lv_iload_n hx hb d_Mod_most_42 rfl (lv_at hl 2 rfl) ?_
            refine lv_if_eq (tgt := 59) hx hb d_Mod_most_43 (by decide) (fun c_428 => ?_) (fun c_428 => ?_)
            · replace hF := xo_if_t c_428 hF
              exact mg59 _ hF _ _ _ hP hS (lv_sub hl [0] rfl)
            · replace hF := xo_if_f c_428 hF
              exact mg46 _ _ _ hF _ _ _ hP hS (lv_sub hl [0, 1, 2] rfl)
        · replace hF := xo_if_f c_426 hF
          exact mg31 _ hF _ _ _ hP hS (lv_sub hl [0] rfl)
    · replace hF := xo_if_f c_424 hF
      exact mg12 _ hF _ _ _ hP hS (lv_sub hl [0] rfl)
set_option maxHeartbeats 4000000 in
set_option maxRecDepth 100000 in
theorem c_Mod_fear (l : Launch) (D : va_G) (cI cZ : ClassId) (ad : Nat → Nat) (A : Nat → Prop) (adK adV : Nat → Nat) (hDw : ∀ st : XS, va_D A (xw_M ad cI cZ st)) (x1 : Int32) (x2 : Int32) (st : XS) (r9 : Int32) (st9 : XS) (hF : F_Mod_fear x1 x2 st = some (r9, st9)) : K_I l D cI cZ A adK adV (xw_M ad cI cZ) y_Mod_fear b_Mod_fear 9 (some .int) 3 79 [.ref (ad 0), .int x1, .int x2] st r9 st9 := by
  refine xk_startI (by decide) .int rfl (Nat.le_of_ble_eq_true rfl) ?_
  intro p e s m args below meth c Q ls hx hb hml hown hts hK hE hP hS hl hret
  replace hown : s.vm.findClass R_Mod = some m.cls := hown
  replace hl : lv_has ls 9 [(0, .ref (ad 0)), (1, .int x1), (2, .int x2)] := hl
  unfold F_Mod_fear at hF
  have mg49 : ∀ (x2 : Int32) (x3 : Int32) (xs : XS), F_Mod_fear_m49 x2 x3 xs = some (r9, st9) → ∀ (H : Heap) (locs : List Loc) (ls : Array Slot), va_P D classes (xw_M ad cI cZ xs) H → va_S A s.heap H locs → lv_has ls 9 [(0, .ref (ad 0)), (2, .int x2), (3, .int x3)] → W p l e (xk_rm 3 79) s m args below meth c H locs 0 0 Q (F0 m 49 ls []) := by
    intro x2 x3 xs hF H locs ls hP hS hl
    unfold F_Mod_fear_m49 at hF
    refine lv_iconst (v := (0 : Int32)) hx hb d_Mod_fear_49 (by decide) ?_
    refine lv_istore (lv' := [(4, .int (0 : Int32)), (0, .ref (ad 0)), (2, .int x2), (3, .int x3)]) hx hb d_Mod_fear_50 hl (by decide) rfl (fun ls hl => ?_)
    refine lv_iconst (v := (0 : Int32)) hx hb d_Mod_fear_52 (by decide) ?_
    refine lv_istore (lv' := [(5, .int (0 : Int32)), (4, .int (0 : Int32)), (0, .ref (ad 0)), (2, .int x2), (3, .int x3)]) hx hb d_Mod_fear_53 hl (by decide) rfl (fun ls hl => ?_)
    refine lv_iconst (v := (0 : Int32)) hx hb d_Mod_fear_55 (by decide) ?_
    refine lv_istore (lv' := [(6, .int (0 : Int32)), (5, .int (0 : Int32)), (4, .int (0 : Int32)), (0, .ref (ad 0)), (2, .int x2), (3, .int x3)]) hx hb d_Mod_fear_56 hl (by decide) rfl (fun ls hl => ?_)
    have lp58 : ∀ (n : Nat) (w58_4 : Int32) (w58_5 : Int32) (w58_6 : Int32) (w58_s : XS) (y : (Int32 × Int32 × XS)), xo_lp (fun q : (Int32 × Int32 × Int32 × XS) => F_Mod_fear_b58 x2 x3 q.1 q.2.1 q.2.2.1 q.2.2.2) n (w58_4, w58_5, w58_6, w58_s) = some y → (∀ (e4 : Int32) (e5 : Int32) (es : XS), (e4, e5, es) = y → ∀ (H : Heap) (locs : List Loc) (ls : Array Slot), va_P D classes (xw_M ad cI cZ es) H → va_S A s.heap H locs → lv_has ls 9 [(2, .int x2), (4, .int e4), (5, .int e5)] → W p l e (xk_rm 3 79) s m args below meth c H locs 0 0 Q (F0 m 173 ls [])) → ∀ (H : Heap) (locs : List Loc) (ls : Array Slot), va_P D classes (xw_M ad cI cZ w58_s) H → va_S A s.heap H locs → lv_has ls 9 [(0, .ref (ad 0)), (2, .int x2), (3, .int x3), (4, .int w58_4), (5, .int w58_5), (6, .int w58_6)] → W p l e (xk_rm 3 79) s m args below meth c H locs 0 0 Q (F0 m 58 ls []) := by
      intro n
      induction n with
      | zero =>
        intro w58_4 w58_5 w58_6 w58_s y hL
        exact nomatch (show (none : Option _) = some y from hL)
      | succ n ih =>
        intro w58_4 w58_5 w58_6 w58_s y hL kx0 H locs ls hP hS hl
        obtain ⟨z9, hB, hL⟩ := xo_lp_s hL
        replace hB : F_Mod_fear_b58 x2 x3 w58_4 w58_5 w58_6 w58_s = some z9 := hB
        unfold F_Mod_fear_b58 at hB
        refine lv_iload hx hb d_Mod_fear_58 (lv_at hl 5 rfl) ?_
        refine lv_iconst (v := (3 : Int32)) hx hb d_Mod_fear_60 (by decide) ?_
        refine lv_icmp_ge (tgt := 173) hx hb d_Mod_fear_61 (by decide) (fun c_429 => ?_) (fun c_429 => ?_)
        · replace hB := xo_if_t c_429 hB
          have q9 := Option.some.inj hB
          subst q9
          replace hL := Option.some.inj (xo_elR hL)
          subst hL
          exact kx0 _ _ _ rfl _ _ _ hP hS (lv_sub hl [1, 3, 4] rfl)
        · replace hB := xo_if_f c_429 hB
          refine lv_bipush (v := (-2 : Int32)) hx hb d_Mod_fear_64 (by decide) ?_
          refine lv_istore (lv' := [(7, .int (-2 : Int32)), (0, .ref (ad 0)), (2, .int x2), (3, .int x3), (4, .int w58_4), (5, .int w58_5), (6, .int w58_6)]) hx hb d_Mod_fear_66 hl (by decide) rfl (fun ls hl => ?_)
          have lp68 : ∀ (n : Nat) (w68_4 : Int32) (w68_5 : Int32) (w68_7 : Int32) (w68_s : XS) (y : (Int32 × Int32 × XS)), xo_lp (fun q : (Int32 × Int32 × Int32 × XS) => F_Mod_fear_b68 x2 x3 w58_6 q.1 q.2.1 q.2.2.1 q.2.2.2) n (w68_4, w68_5, w68_7, w68_s) = some y → (∀ (e4 : Int32) (e5 : Int32) (es : XS), (e4, e5, es) = y → ∀ (H : Heap) (locs : List Loc) (ls : Array Slot), va_P D classes (xw_M ad cI cZ es) H → va_S A s.heap H locs → lv_has ls 9 [(0, .ref (ad 0)), (2, .int x2), (3, .int x3), (4, .int e4), (5, .int e5), (6, .int w58_6)] → W p l e (xk_rm 3 79) s m args below meth c H locs 0 0 Q (F0 m 167 ls [])) → ∀ (H : Heap) (locs : List Loc) (ls : Array Slot), va_P D classes (xw_M ad cI cZ w68_s) H → va_S A s.heap H locs → lv_has ls 9 [(0, .ref (ad 0)), (2, .int x2), (3, .int x3), (4, .int w68_4), (5, .int w68_5), (6, .int w58_6), (7, .int w68_7)] → W p l e (xk_rm 3 79) s m args below meth c H locs 0 0 Q (F0 m 68 ls []) := by
            intro n
            induction n with
            | zero =>
              intro w68_4 w68_5 w68_7 w68_s y hL
              exact nomatch (show (none : Option _) = some y from hL)
            | succ n ih =>
              intro w68_4 w68_5 w68_7 w68_s y hL kx0 H locs ls hP hS hl
              obtain ⟨z9, hB, hL⟩ := xo_lp_s hL
              replace hB : F_Mod_fear_b68 x2 x3 w58_6 w68_4 w68_5 w68_7 w68_s = some z9 := hB
              unfold F_Mod_fear_b68 at hB
              have mg84 : ∀ (x4 : Int32) (x5 : Int32) (x7 : Int32) (xs : XS), F_Mod_fear_m84 x2 x3 x4 x5 w58_6 x7 xs = some z9 → ∀ (H : Heap) (locs : List Loc) (ls : Array Slot), va_P D classes (xw_M ad cI cZ xs) H → va_S A s.heap H locs → lv_has ls 9 [(0, .ref (ad 0)), (2, .int x2), (3, .int x3), (4, .int x4), (5, .int x5), (6, .int w58_6), (7, .int x7)] → W p l e (xk_rm 3 79) s m args below meth c H locs 0 0 Q (F0 m 84 ls []) := by
                intro x4 x5 x7 xs hB H locs ls hP hS hl
                unfold F_Mod_fear_m84 at hB
                refine lv_aload_n hx hb d_Mod_fear_84 rfl (lv_at hl 0 rfl) ?_
                refine lv_iload hx hb d_Mod_fear_85 (lv_at hl 5 rfl) ?_
                refine lv_iload hx hb d_Mod_fear_87 (lv_at hl 6 rfl) ?_
                refine lv_aload_n hx hb d_Mod_fear_89 rfl (lv_at hl 0 rfl) ?_
                refine xk_get (C := R_Mod) (T := F_Mod) (N := 23) hx hb hts i_Mod hown hK hP 0 xw_M_at_0 rfl 0 (by decide) u_666 rfl d_Mod_fear_90 ?_
                obtain ⟨v7, h_v7, hB⟩ := xo_ob hB
                refine xk_goI (xk_runV (As := [.int w58_6, .int x7, .int (xs.1 0 0)]) (rest := []) hx hb hml hown hts hK hE (fun _ h => h) hP hS ok_Mod_isDirection in_Mod_isDirection u_770 (c_Mod_isDirection l D cI cZ ad A adK adV hDw w58_6 x7 (xs.1 0 0) xs v7 h_v7) (va_recv hK hP (ci := 4) (q0 := 0) rfl xw_M_at_0) (by decide) rfl hl.1 rfl (Nat.le_of_ble_eq_true rfl) d_Mod_fear_93 ⟨Nat.le_refl _, Nat.le_refl _⟩) (fun _ h => h) hS (fun H locs hP hS => ?_)
                refine lv_if_eq (tgt := 102) hx hb d_Mod_fear_96 (by decide) (fun c_430 => ?_) (fun c_430 => ?_)
                · replace hB := xo_if_t c_430 hB
                  refine lv_bipush (v := (-9 : Int32)) hx hb d_Mod_fear_102 (by decide) ?_
                  refine lv_istore (lv' := [(8, .int (-9 : Int32)), (0, .ref (ad 0)), (2, .int x2), (3, .int x3), (4, .int x4), (5, .int x5), (6, .int w58_6), (7, .int x7)]) hx hb d_Mod_fear_104 hl (by decide) rfl (fun ls hl => ?_)
                  have lp106 : ∀ (n : Nat) (w106_4 : Int32) (w106_5 : Int32) (w106_8 : Int32) (w106_s : XS) (y : (Int32 × Int32 × XS)), xo_lp (fun q : (Int32 × Int32 × Int32 × XS) => F_Mod_fear_b106 x2 x3 w58_6 x7 q.1 q.2.1 q.2.2.1 q.2.2.2) n (w106_4, w106_5, w106_8, w106_s) = some y → (∀ (e4 : Int32) (e5 : Int32) (es : XS), (e4, e5, es) = y → ∀ (H : Heap) (locs : List Loc) (ls : Array Slot), va_P D classes (xw_M ad cI cZ es) H → va_S A s.heap H locs → lv_has ls 9 [(0, .ref (ad 0)), (2, .int x2), (3, .int x3), (4, .int e4), (5, .int e5), (6, .int w58_6), (7, .int x7)] → W p l e (xk_rm 3 79) s m args below meth c H locs 0 0 Q (F0 m 161 ls [])) → ∀ (H : Heap) (locs : List Loc) (ls : Array Slot), va_P D classes (xw_M ad cI cZ w106_s) H → va_S A s.heap H locs → lv_has ls 9 [(0, .ref (ad 0)), (2, .int x2), (3, .int x3), (4, .int w106_4), (5, .int w106_5), (6, .int w58_6), (7, .int x7), (8, .int w106_8)] → W p l e (xk_rm 3 79) s m args below meth c H locs 0 0 Q (F0 m 106 ls []) := by
                    intro n
                    induction n with
                    | zero =>
                      intro w106_4 w106_5 w106_8 w106_s y hL
                      exact nomatch (show (none : Option _) = some y from hL)
                    | succ n ih =>
                      intro w106_4 w106_5 w106_8 w106_s y hL kx0 H locs ls hP hS hl
                      obtain ⟨z9, hB, hL⟩ := xo_lp_s hL
                      replace hB : F_Mod_fear_b106 x2 x3 w58_6 x7 w106_4 w106_5 w106_8 w106_s = some z9 := hB
                      unfold F_Mod_fear_b106 at hB
                      refine lv_iload hx hb d_Mod_fear_106 (lv_at hl 7 rfl) ?_
                      refine lv_bipush (v := (10 : Int32)) hx hb d_Mod_fear_108 (by decide) ?_
                      refine lv_icmp_ge (tgt := 161) hx hb d_Mod_fear_110 (by decide) (fun c_431 => ?_) (fun c_431 => ?_)
                      · replace hB := xo_if_t c_431 hB
                        have q9 := Option.some.inj hB
                        subst q9
                        replace hL := Option.some.inj (xo_elR hL)
                        subst hL
                        exact kx0 _ _ _ rfl _ _ _ hP hS (lv_sub hl [0, 1, 2, 3, 4, 5, 6] rfl)
                      · replace hB := xo_if_f c_431 hB
                        obtain ⟨v11, e_v11, hB⟩ := xo_nm_e hB
                        refine lv_iinc (v := v11) (lv' := [(4, .int v11), (0, .ref (ad 0)), (2, .int x2), (3, .int x3), (5, .int w106_5), (6, .int w58_6), (7, .int x7), (8, .int w106_8)]) hx hb d_Mod_fear_113 hl (k := 3) rfl (by rw [e_v11]; rfl) (by decide) rfl (fun ls hl => ?_)
                        clear e_v11
                        refine lv_iload_n hx hb d_Mod_fear_116 rfl (lv_at hl 2 rfl) ?_
                        refine lv_iconst (v := (1 : Int32)) hx hb d_Mod_fear_117 (by decide) ?_
                        refine lv_icmp_ne (tgt := 124) hx hb d_Mod_fear_118 (by decide) (fun c_432 => ?_) (fun c_432 => ?_)
                        · replace hB := xo_if_f c_432 hB
                          refine lv_aload_n hx hb d_Mod_fear_124 rfl (lv_at hl 1 rfl) ?_
                          refine lv_iload hx hb d_Mod_fear_125 (lv_at hl 5 rfl) ?_
                          refine lv_iload hx hb d_Mod_fear_127 (lv_at hl 6 rfl) ?_
                          refine lv_iload hx hb d_Mod_fear_129 (lv_at hl 7 rfl) ?_
                          obtain ⟨t13, h_t13, hB⟩ := xo_ob hB
                          refine xk_goV (xk_runV (As := [.int w58_6, .int x7, .int w106_8]) (rest := []) hx hb hml hown hts hK hE (fun _ h => h) hP hS ok_Mod_think in_Mod_think u_917 (c_Mod_think l D cI cZ ad A adK adV hDw w58_6 x7 w106_8 w106_s t13 h_t13) (va_recv hK hP (ci := 4) (q0 := 0) rfl xw_M_at_0) (by decide) rfl hl.1 rfl (Nat.le_of_ble_eq_true rfl) d_Mod_fear_131 ⟨Nat.le_refl _, Nat.le_refl _⟩) (fun _ h => h) hS (fun H locs hP hS => ?_)
                          refine lv_aload_n hx hb d_Mod_fear_134 rfl (lv_at hl 1 rfl) ?_
                          refine lv_aload_n hx hb d_Mod_fear_135 rfl (lv_at hl 1 rfl) ?_
                          refine xk_get (C := R_Mod) (T := F_Mod) (N := 23) hx hb hts i_Mod hown hK hP 0 xw_M_at_0 rfl 0 (by decide) u_666 rfl d_Mod_fear_136 ?_
                          refine lv_iconst (v := (1 : Int32)) hx hb d_Mod_fear_139 (by decide) ?_
                          refine lv_iadd hx hb d_Mod_fear_140 ?_
                          obtain ⟨t14, h_t14, hB⟩ := xo_ob hB
                          refine xk_goV (xk_runV (As := [.int ((t13.1 0 0) + (1 : Int32))]) (rest := []) hx hb hml hown hts hK hE (fun _ h => h) hP hS ok_Mod_lay in_Mod_lay u_828 (c_Mod_lay l D cI cZ ad A adK adV hDw ((t13.1 0 0) + (1 : Int32)) t13 t14 h_t14) (va_recv hK hP (ci := 4) (q0 := 0) rfl xw_M_at_0) (by decide) rfl hl.1 rfl (Nat.le_of_ble_eq_true rfl) d_Mod_fear_141 ⟨Nat.le_refl _, Nat.le_refl _⟩) (fun _ h => h) hS (fun H locs hP hS => ?_)
                          refine lv_aload_n hx hb d_Mod_fear_144 rfl (lv_at hl 1 rfl) ?_
                          refine lv_iload_n hx hb d_Mod_fear_145 rfl (lv_at hl 3 rfl) ?_
                          obtain ⟨v15, h_v15, hB⟩ := xo_ob hB
                          refine xk_goI (xk_runV (As := [.int x3]) (rest := []) hx hb hml hown hts hK hE (fun _ h => h) hP hS ok_Mod_cuts in_Mod_cuts u_921 (c_Mod_cuts l D cI cZ ad A adK adV hDw x3 t14 v15 h_v15) (va_recv hK hP (ci := 4) (q0 := 0) rfl xw_M_at_0) (by decide) rfl hl.1 rfl (Nat.le_of_ble_eq_true rfl) d_Mod_fear_146 ⟨Nat.le_refl _, Nat.le_refl _⟩) (fun _ h => h) hS (fun H locs hP hS => ?_)
                          refine lv_if_eq (tgt := 155) hx hb d_Mod_fear_149 (by decide) (fun c_433 => ?_) (fun c_433 => ?_)
                          · replace hB := xo_if_t c_433 hB
                            obtain ⟨v16, e_v16, hB⟩ := xo_nm_e hB
                            refine lv_iinc (v := v16) (lv' := [(8, .int v16), (4, .int v11), (0, .ref (ad 0)), (2, .int x2), (3, .int x3), (5, .int w106_5), (6, .int w58_6), (7, .int x7)]) hx hb d_Mod_fear_155 hl (k := 7) rfl (by rw [e_v16]; rfl) (by decide) rfl (fun ls hl => ?_)
                            clear e_v16
                            refine lv_goto (tgt := 106) hx hb d_Mod_fear_158 (by decide) ?_
                            have q9 := Option.some.inj hB
                            subst q9
                            exact ih _ _ _ _ _ (xo_elL hL) kx0 _ _ _ hP hS (lv_sub hl [2, 3, 4, 1, 5, 6, 7, 0] rfl)
                          · replace hB := xo_if_f c_433 hB
                            obtain ⟨v17, e_v17, hB⟩ := xo_nm_e hB
                            refine lv_iinc (v := v17) (lv' := [(5, .int v17), (4, .int v11), (0, .ref (ad 0)), (2, .int x2), (3, .int x3), (6, .int w58_6), (7, .int x7), (8, .int w106_8)]) hx hb d_Mod_fear_152 hl (k := 4) rfl (by rw [e_v17]; rfl) (by decide) rfl (fun ls hl => ?_)
                            clear e_v17
                            obtain ⟨v18, e_v18, hB⟩ := xo_nm_e hB
                            refine lv_iinc (v := v18) (lv' := [(8, .int v18), (5, .int v17), (4, .int v11), (0, .ref (ad 0)), (2, .int x2), (3, .int x3), (6, .int w58_6), (7, .int x7)]) hx hb d_Mod_fear_155 hl (k := 7) rfl (by rw [e_v18]; rfl) (by decide) rfl (fun ls hl => ?_)
                            clear e_v18
                            refine lv_goto (tgt := 106) hx hb d_Mod_fear_158 (by decide) ?_
                            have q9 := Option.some.inj hB
                            subst q9
                            exact ih _ _ _ _ _ (xo_elL hL) kx0 _ _ _ hP hS (lv_sub hl [3, 4, 5, 2, 1, 6, 7, 0] rfl)
                        · replace hB := xo_if_t c_432 hB
                          refine lv_goto (tgt := 155) hx hb d_Mod_fear_121 (by decide) ?_
                          obtain ⟨v12, e_v12, hB⟩ := xo_nm_e hB
                          refine lv_iinc (v := v12) (lv' := [(8, .int v12), (4, .int v11), (0, .ref (ad 0)), (2, .int x2), (3, .int x3), (5, .int w106_5), (6, .int w58_6), (7, .int x7)]) hx hb d_Mod_fear_155 hl (k := 7) rfl (by rw [e_v12]; rfl) (by decide) rfl (fun ls hl => ?_)
                          clear e_v12
                          refine lv_goto (tgt := 106) hx hb d_Mod_fear_158 (by decide) ?_
                          have q9 := Option.some.inj hB
                          subst q9
                          exact ih _ _ _ _ _ (xo_elL hL) kx0 _ _ _ hP hS (lv_sub hl [2, 3, 4, 1, 5, 6, 7, 0] rfl)
                  obtain ⟨y106, hL106, hB⟩ := xo_ob hB
                  refine lp106 1000000 x4 x5 (-9 : Int32) xs y106 hL106 ?_ _ _ _ hP hS (lv_sub hl [1, 2, 3, 4, 5, 6, 7, 0] rfl)
                  intro o8 o9 t10 ey H locs ls hP hS hl
                  subst ey
                  replace hB := xo_u3e hB
                  obtain ⟨v19, e_v19, hB⟩ := xo_nm_e hB
                  refine lv_iinc (v := v19) (lv' := [(7, .int v19), (0, .ref (ad 0)), (2, .int x2), (3, .int x3), (4, .int o8), (5, .int o9), (6, .int w58_6)]) hx hb d_Mod_fear_161 hl (k := 6) rfl (by rw [e_v19]; rfl) (by decide) rfl (fun ls hl => ?_)
                  clear e_v19
                  refine lv_goto (tgt := 68) hx hb d_Mod_fear_164 (by decide) ?_
                  have q9 := Option.some.inj hB
                  subst q9
                  exact ih _ _ _ _ _ (xo_elL hL) kx0 _ _ _ hP hS (lv_sub hl [1, 2, 3, 4, 5, 6, 0] rfl)
                · replace hB := xo_if_f c_430 hB
                  refine lv_goto (tgt := 161) hx hb d_Mod_fear_99 (by decide) ?_
                  obtain ⟨v20, e_v20, hB⟩ := xo_nm_e hB
                  refine lv_iinc (v := v20) (lv' := [(7, .int v20), (0, .ref (ad 0)), (2, .int x2), (3, .int x3), (4, .int x4), (5, .int x5), (6, .int w58_6)]) hx hb d_Mod_fear_161 hl (k := 6) rfl (by rw [e_v20]; rfl) (by decide) rfl (fun ls hl => ?_)
                  clear e_v20
                  refine lv_goto (tgt := 68) hx hb d_Mod_fear_164 (by decide) ?_
                  have q9 := Option.some.inj hB
                  subst q9
                  exact ih _ _ _ _ _ (xo_elL hL) kx0 _ _ _ hP hS (lv_sub hl [1, 2, 3, 4, 5, 6, 0] rfl)
              refine lv_iload hx hb d_Mod_fear_68 (lv_at hl 6 rfl) ?_
              refine lv_iconst (v := (3 : Int32)) hx hb d_Mod_fear_70 (by decide) ?_
              refine lv_icmp_ge (tgt := 167) hx hb d_Mod_fear_71 (by decide) (fun c_434 => ?_) (fun c_434 => ?_)
              · replace hB := xo_if_t c_434 hB
                have q9 := Option.some.inj hB
                subst q9
                replace hL := Option.some.inj (xo_elR hL)
                subst hL
                exact kx0 _ _ _ rfl _ _ _ hP hS (lv_sub hl [0, 1, 2, 3, 4, 5] rfl)
              · replace hB := xo_if_f c_434 hB
                refine lv_iload hx hb d_Mod_fear_74 (lv_at hl 5 rfl) ?_
                refine lv_if_ne (tgt := 84) hx hb d_Mod_fear_76 (by decide) (fun c_435 => ?_) (fun c_435 => ?_)
                · replace hB := xo_if_f c_435 hB
                  exact mg84 _ _ _ _ hB _ _ _ hP hS (lv_sub hl [0, 1, 2, 3, 4, 5, 6] rfl)
                · replace hB := xo_if_t c_435 hB
                  refine lv_iload hx hb d_Mod_fear_79 (lv_at hl 6 rfl) ?_
                  refine lv_if_eq (tgt := 161) hx hb d_Mod_fear_81 (by decide) (fun c_436 => ?_) (fun c_436 => ?_)
                  · replace hB := xo_if_t c_436 hB
                    obtain ⟨v21, e_v21, hB⟩ := xo_nm_e hB
                    refine lv_iinc (v := v21) (lv' := [(7, .int v21), (0, .ref (ad 0)), (2, .int x2), (3, .int x3), (4, .int w68_4), (5, .int w68_5), (6, .int w58_6)]) hx hb d_Mod_fear_161 hl (k := 6) rfl (by rw [e_v21]; rfl) (by decide) rfl (fun ls hl => ?_)
                    clear e_v21
                    refine lv_goto (tgt := 68) hx hb d_Mod_fear_164 (by decide) ?_
                    have q9 := Option.some.inj hB
                    subst q9
                    exact ih _ _ _ _ _ (xo_elL hL) kx0 _ _ _ hP hS (lv_sub hl [1, 2, 3, 4, 5, 6, 0] rfl)
                  · replace hB := xo_if_f c_436 hB
                    exact mg84 _ _ _ _ hB _ _ _ hP hS (lv_sub hl [0, 1, 2, 3, 4, 5, 6] rfl)
          obtain ⟨y68, hL68, hB⟩ := xo_ob hB
          refine lp68 1000000 w58_4 w58_5 (-2 : Int32) w58_s y68 hL68 ?_ _ _ _ hP hS (lv_sub hl [1, 2, 3, 4, 5, 6, 0] rfl)
          intro o4 o5 t6 ey H locs ls hP hS hl
          subst ey
          replace hB := xo_u3e hB
          obtain ⟨v22, e_v22, hB⟩ := xo_nm_e hB
          refine lv_iinc (v := v22) (lv' := [(6, .int v22), (0, .ref (ad 0)), (2, .int x2), (3, .int x3), (4, .int o4), (5, .int o5)]) hx hb d_Mod_fear_167 hl (k := 5) rfl (by rw [e_v22]; rfl) (by decide) rfl (fun ls hl => ?_)
          clear e_v22
          refine lv_goto (tgt := 58) hx hb d_Mod_fear_170 (by decide) ?_
          have q9 := Option.some.inj hB
          subst q9
          exact ih _ _ _ _ _ (xo_elL hL) kx0 _ _ _ hP hS (lv_sub hl [1, 2, 3, 4, 5, 0] rfl)
    obtain ⟨y58, hL58, hF⟩ := xo_ob hF
    refine lp58 1000000 (0 : Int32) (0 : Int32) (0 : Int32) xs y58 hL58 ?_ _ _ _ hP hS (lv_sub hl [3, 4, 5, 2, 1, 0] rfl)
    intro o1 o2 t3 ey H locs ls hP hS hl
    subst ey
    replace hF := xo_u3e hF
    refine lv_iload_n hx hb d_Mod_fear_173 rfl (lv_at hl 0 rfl) ?_
    refine lv_if_ne (tgt := 182) hx hb d_Mod_fear_174 (by decide) (fun c_437 => ?_) (fun c_437 => ?_)
    · replace hF := xo_if_f c_437 hF
      refine lv_iload hx hb d_Mod_fear_182 (lv_at hl 1 rfl) ?_
      obtain ⟨q8, q9⟩ := xo_s2 hF
      subst q8
      subst q9
      exact hret 184 _ _ _ d_Mod_fear_184 rfl hP hS
    · replace hF := xo_if_t c_437 hF
      refine lv_iload hx hb d_Mod_fear_177 (lv_at hl 2 rfl) ?_
      refine lv_goto (tgt := 184) hx hb d_Mod_fear_179 (by decide) ?_
      obtain ⟨q8, q9⟩ := xo_s2 hF
      subst q8
      subst q9
      exact hret 184 _ _ _ d_Mod_fear_184 rfl hP hS
  refine lv_aload_n hx hb d_Mod_fear_0 rfl (lv_at hl 0 rfl) ?_
  refine lv_iload_n hx hb d_Mod_fear_1 rfl (lv_at hl 1 rfl) ?_
  obtain ⟨v23, h_v23, hF⟩ := xo_ob hF
  refine xk_goI (xk_runV (As := [.int x1]) (rest := []) hx hb hml hown hts hK hE (fun _ h => h) hP hS ok_Mod_isPlot in_Mod_isPlot u_815 (c_Mod_isPlot l D cI cZ ad A adK adV hDw x1 st v23 h_v23) (va_recv hK hP (ci := 4) (q0 := 0) rfl xw_M_at_0) (by decide) rfl hl.1 rfl (Nat.le_of_ble_eq_true rfl) d_Mod_fear_2 ⟨Nat.le_refl _, Nat.le_refl _⟩) (fun _ h => h) hS (fun H locs hP hS => ?_)
  refine lv_if_ne (tgt := 14) hx hb d_Mod_fear_5 (by decide) (fun c_438 => ?_) (fun c_438 => ?_)
  · replace hF := xo_if_f c_438 hF
    refine lv_iload_n hx hb d_Mod_fear_14 rfl (lv_at hl 2 rfl) ?_
    refine lv_iconst (v := (0 : Int32)) hx hb d_Mod_fear_15 (by decide) ?_
    refine lv_iconst (v := (1 : Int32)) hx hb d_Mod_fear_16 (by decide) ?_
    obtain ⟨v26, h_v26, hF⟩ := xo_ob hF
    refine xk_goI (xk_runS (As := [.int x2, .int (0 : Int32), .int (1 : Int32)]) (rest := []) hx hb hml hown hts hK hE (fun _ h => h) hP hS ok_Mod_within st_Mod_within u_765 (c_Mod_within l D cI cZ ad A adK adV hDw x2 (0 : Int32) (1 : Int32) st v26 h_v26) (by decide) rfl hl.1 rfl (Nat.le_of_ble_eq_true rfl) d_Mod_fear_17 ⟨Nat.le_refl _, Nat.le_refl _⟩) (fun _ h => h) hS (fun H locs hP hS => ?_)
    refine lv_if_ne (tgt := 30) hx hb d_Mod_fear_20 (by decide) (fun c_439 => ?_) (fun c_439 => ?_)
    · replace hF := xo_if_f c_439 hF
      refine lv_aload_n hx hb d_Mod_fear_30 rfl (lv_at hl 0 rfl) ?_
      refine lv_iload_n hx hb d_Mod_fear_31 rfl (lv_at hl 1 rfl) ?_
      obtain ⟨v29, h_v29, hF⟩ := xo_ob hF
      refine xk_goI (xk_runV (As := [.int x1]) (rest := []) hx hb hml hown hts hK hE (fun _ h => h) hP hS ok_Mod_whereIs in_Mod_whereIs u_893 (c_Mod_whereIs l D cI cZ ad A adK adV hDw x1 st v29 h_v29) (va_recv hK hP (ci := 4) (q0 := 0) rfl xw_M_at_0) (by decide) rfl hl.1 rfl (Nat.le_of_ble_eq_true rfl) d_Mod_fear_32 ⟨Nat.le_refl _, Nat.le_refl _⟩) (fun _ h => h) hS (fun H locs hP hS => ?_)
      refine lv_istore_n (lv' := [(3, .int v29), (0, .ref (ad 0)), (1, .int x1), (2, .int x2)]) hx hb d_Mod_fear_35 rfl hl (by decide) rfl (fun ls hl => ?_)
      refine lv_iload_n hx hb d_Mod_fear_36 rfl (lv_at hl 3 rfl) ?_
      refine lv_if_ne (tgt := 49) hx hb d_Mod_fear_37 (by decide) (fun c_440 => ?_) (fun c_440 => ?_)
      · replace hF := xo_if_f c_440 hF
        exact mg49 _ _ _ hF _ _ _ hP hS (lv_sub hl [1, 3, 0] rfl)
      · replace hF := xo_if_t c_440 hF
        refine lv_iload_n hx hb d_Mod_fear_40 rfl (lv_at hl 0 rfl) ?_
        refine lv_bipush (v := (-9 : Int32)) hx hb d_Mod_fear_41 (by decide) ?_
        refine lv_icmp_ne (tgt := 49) hx hb d_Mod_fear_43 (by decide) (fun c_441 => ?_) (fun c_441 => ?_)
        · replace hF := xo_if_f c_441 hF
          exact mg49 _ _ _ hF _ _ _ hP hS (lv_sub hl [1, 3, 0] rfl)
        · replace hF := xo_if_t c_441 hF
          refine lv_bipush (v := (-9 : Int32)) hx hb d_Mod_fear_46 (by decide) ?_
          obtain ⟨q8, q9⟩ := xo_s2 hF
          subst q8
          subst q9
          exact hret 48 _ _ _ d_Mod_fear_48 rfl hP hS
    · replace hF := xo_if_t c_439 hF
      refine lv_aload_n hx hb d_Mod_fear_23 rfl (lv_at hl 0 rfl) ?_
      refine lv_bipush (v := (-2 : Int32)) hx hb d_Mod_fear_24 (by decide) ?_
      obtain ⟨v27, t28, h_v27, hF⟩ := xo_ob2 hF
      refine xk_goI (xk_runV (As := [.int (-2 : Int32)]) (rest := []) hx hb hml hown hts hK hE (fun _ h => h) hP hS ok_Mod_no in_Mod_no u_741 (c_Mod_no l D cI cZ ad A adK adV hDw (-2 : Int32) st v27 t28 h_v27) (va_recv hK hP (ci := 4) (q0 := 0) rfl xw_M_at_0) (by decide) rfl hl.1 rfl (Nat.le_of_ble_eq_true rfl) d_Mod_fear_26 ⟨Nat.le_refl _, Nat.le_refl _⟩) (fun _ h => h) hS (fun H locs hP hS => ?_)
      obtain ⟨q8, q9⟩ := xo_s2 hF
      subst q8
      subst q9
      exact hret 29 _ _ _ d_Mod_fear_29 rfl hP hS
  · replace hF := xo_if_t c_438 hF
    refine lv_aload_n hx hb d_Mod_fear_8 rfl (lv_at hl 0 rfl) ?_
    refine lv_iconst (v := (-1 : Int32)) hx hb d_Mod_fear_9 (by decide) ?_
    obtain ⟨v24, t25, h_v24, hF⟩ := xo_ob2 hF
    refine xk_goI (xk_runV (As := [.int (-1 : Int32)]) (rest := []) hx hb hml hown hts hK hE (fun _ h => h) hP hS ok_Mod_no in_Mod_no u_741 (c_Mod_no l D cI cZ ad A adK adV hDw (-1 : Int32) st v24 t25 h_v24) (va_recv hK hP (ci := 4) (q0 := 0) rfl xw_M_at_0) (by decide) rfl hl.1 rfl (Nat.le_of_ble_eq_true rfl) d_Mod_fear_10 ⟨Nat.le_refl _, Nat.le_refl _⟩) (fun _ h => h) hS (fun H locs hP hS => ?_)
    obtain ⟨q8, q9⟩ := xo_s2 hF
    subst q8
    subst q9
    exact hret 13 _ _ _ d_Mod_fear_13 rfl hP hS
set_option maxHeartbeats 4000000 in
set_option maxRecDepth 100000 in
theorem c_Mod_without (l : Launch) (D : va_G) (cI cZ : ClassId) (ad : Nat → Nat) (A : Nat → Prop) (adK adV : Nat → Nat) (hDw : ∀ st : XS, va_D A (xw_M ad cI cZ st)) (x1 : Int32) (st : XS) (r9 : Int32) (st9 : XS) (hF : F_Mod_without x1 st = some (r9, st9)) : K_I l D cI cZ A adK adV (xw_M ad cI cZ) y_Mod_without b_Mod_without 7 (some .int) 3 79 [.ref (ad 0), .int x1] st r9 st9 := by
  refine xk_startI (by decide) .int rfl (Nat.le_of_ble_eq_true rfl) ?_
  intro p e s m args below meth c Q ls hx hb hml hown hts hK hE hP hS hl hret
  replace hown : s.vm.findClass R_Mod = some m.cls := hown
  replace hl : lv_has ls 7 [(0, .ref (ad 0)), (1, .int x1)] := hl
  unfold F_Mod_without at hF
  refine lv_aload_n hx hb d_Mod_without_0 rfl (lv_at hl 0 rfl) ?_
  refine xk_get (C := R_Mod) (T := F_Mod) (N := 23) hx hb hts i_Mod hown hK hP 0 xw_M_at_0 rfl 2 (by decide) u_668 rfl d_Mod_without_1 ?_
  refine lv_iload_n hx hb d_Mod_without_4 rfl (lv_at hl 1 rfl) ?_
  obtain ⟨v1, h_v1, hF⟩ := xo_ob hF
  refine xk_iald hx hb hK hP 2 xw_M_at_2 h_v1 d_Mod_without_5 ?_
  refine lv_istore_n (lv' := [(2, .int v1), (0, .ref (ad 0)), (1, .int x1)]) hx hb d_Mod_without_6 rfl hl (by decide) rfl (fun ls hl => ?_)
  refine lv_aload_n hx hb d_Mod_without_7 rfl (lv_at hl 1 rfl) ?_
  refine xk_get (C := R_Mod) (T := F_Mod) (N := 23) hx hb hts i_Mod hown hK hP 0 xw_M_at_0 rfl 3 (by decide) u_669 rfl d_Mod_without_8 ?_
  refine lv_iload_n hx hb d_Mod_without_11 rfl (lv_at hl 2 rfl) ?_
  obtain ⟨v2, h_v2, hF⟩ := xo_ob hF
  refine xk_iald hx hb hK hP 3 xw_M_at_3 h_v2 d_Mod_without_12 ?_
  refine lv_istore_n (lv' := [(3, .int v2), (2, .int v1), (0, .ref (ad 0)), (1, .int x1)]) hx hb d_Mod_without_13 rfl hl (by decide) rfl (fun ls hl => ?_)
  refine lv_aload_n hx hb d_Mod_without_14 rfl (lv_at hl 2 rfl) ?_
  refine xk_get (C := R_Mod) (T := F_Mod) (N := 23) hx hb hts i_Mod hown hK hP 0 xw_M_at_0 rfl 4 (by decide) u_670 rfl d_Mod_without_15 ?_
  refine lv_iload_n hx hb d_Mod_without_18 rfl (lv_at hl 3 rfl) ?_
  obtain ⟨v3, h_v3, hF⟩ := xo_ob hF
  refine xk_iald hx hb hK hP 4 xw_M_at_4 h_v3 d_Mod_without_19 ?_
  refine lv_istore (lv' := [(4, .int v3), (3, .int v2), (2, .int v1), (0, .ref (ad 0)), (1, .int x1)]) hx hb d_Mod_without_20 hl (by decide) rfl (fun ls hl => ?_)
  refine lv_aload_n hx hb d_Mod_without_22 rfl (lv_at hl 3 rfl) ?_
  refine xk_get (C := R_Mod) (T := F_Mod) (N := 23) hx hb hts i_Mod hown hK hP 0 xw_M_at_0 rfl 0 (by decide) u_666 rfl d_Mod_without_23 ?_
  refine lv_iconst (v := (1 : Int32)) hx hb d_Mod_without_26 (by decide) ?_
  refine lv_isub hx hb d_Mod_without_27 ?_
  refine lv_topi (fun v4 e_v4 => ?_)
  replace hF := xo_nm_u hF e_v4
  clear e_v4
  refine lv_istore (lv' := [(5, .int v4), (4, .int v3), (3, .int v2), (2, .int v1), (0, .ref (ad 0)), (1, .int x1)]) hx hb d_Mod_without_28 hl (by decide) rfl (fun ls hl => ?_)
  refine lv_aload_n hx hb d_Mod_without_30 rfl (lv_at hl 4 rfl) ?_
  refine xk_get (C := R_Mod) (T := F_Mod) (N := 23) hx hb hts i_Mod hown hK hP 0 xw_M_at_0 rfl 2 (by decide) u_668 rfl d_Mod_without_31 ?_
  refine lv_iload_n hx hb d_Mod_without_34 rfl (lv_at hl 5 rfl) ?_
  refine lv_aload_n hx hb d_Mod_without_35 rfl (lv_at hl 4 rfl) ?_
  refine xk_get (C := R_Mod) (T := F_Mod) (N := 23) hx hb hts i_Mod hown hK hP 0 xw_M_at_0 rfl 2 (by decide) u_668 rfl d_Mod_without_36 ?_
  refine lv_iload hx hb d_Mod_without_39 (lv_at hl 0 rfl) ?_
  obtain ⟨v5, h_v5, hF⟩ := xo_ob hF
  refine xk_iald hx hb hK hP 2 xw_M_at_2 h_v5 d_Mod_without_41 ?_
  obtain ⟨_, h_t6, hF⟩ := xo_ob hF
  obtain ⟨t6, e_t6, hF⟩ := xo_nm_e hF
  refine xk_iast hx hb hK hP (hDw _) hS 2 xw_M_at_2 h_t6 (xw_M_set_2 _) d_Mod_without_42 (fun H locs hP hS => ?_)
  replace hP : va_P D classes (xw_M ad cI cZ t6) H := by rw [e_t6]; exact hP
  clear e_t6
  refine lv_aload_n hx hb d_Mod_without_43 rfl (lv_at hl 4 rfl) ?_
  refine xk_get (C := R_Mod) (T := F_Mod) (N := 23) hx hb hts i_Mod hown hK hP 0 xw_M_at_0 rfl 3 (by decide) u_669 rfl d_Mod_without_44 ?_
  refine lv_iload_n hx hb d_Mod_without_47 rfl (lv_at hl 5 rfl) ?_
  refine lv_aload_n hx hb d_Mod_without_48 rfl (lv_at hl 4 rfl) ?_
  refine xk_get (C := R_Mod) (T := F_Mod) (N := 23) hx hb hts i_Mod hown hK hP 0 xw_M_at_0 rfl 3 (by decide) u_669 rfl d_Mod_without_49 ?_
  refine lv_iload hx hb d_Mod_without_52 (lv_at hl 0 rfl) ?_
  obtain ⟨v7, h_v7, hF⟩ := xo_ob hF
  refine xk_iald hx hb hK hP 3 xw_M_at_3 h_v7 d_Mod_without_54 ?_
  obtain ⟨_, h_t8, hF⟩ := xo_ob hF
  obtain ⟨t8, e_t8, hF⟩ := xo_nm_e hF
  refine xk_iast hx hb hK hP (hDw _) hS 3 xw_M_at_3 h_t8 (xw_M_set_3 _) d_Mod_without_55 (fun H locs hP hS => ?_)
  replace hP : va_P D classes (xw_M ad cI cZ t8) H := by rw [e_t8]; exact hP
  clear e_t8
  refine lv_aload_n hx hb d_Mod_without_56 rfl (lv_at hl 4 rfl) ?_
  refine xk_get (C := R_Mod) (T := F_Mod) (N := 23) hx hb hts i_Mod hown hK hP 0 xw_M_at_0 rfl 4 (by decide) u_670 rfl d_Mod_without_57 ?_
  refine lv_iload_n hx hb d_Mod_without_60 rfl (lv_at hl 5 rfl) ?_
  refine lv_aload_n hx hb d_Mod_without_61 rfl (lv_at hl 4 rfl) ?_
  refine xk_get (C := R_Mod) (T := F_Mod) (N := 23) hx hb hts i_Mod hown hK hP 0 xw_M_at_0 rfl 4 (by decide) u_670 rfl d_Mod_without_62 ?_
  refine lv_iload hx hb d_Mod_without_65 (lv_at hl 0 rfl) ?_
  obtain ⟨v9, h_v9, hF⟩ := xo_ob hF
  refine xk_iald hx hb hK hP 4 xw_M_at_4 h_v9 d_Mod_without_67 ?_
  obtain ⟨_, h_t10, hF⟩ := xo_ob hF
  obtain ⟨t10, e_t10, hF⟩ := xo_nm_e hF
  refine xk_iast hx hb hK hP (hDw _) hS 4 xw_M_at_4 h_t10 (xw_M_set_4 _) d_Mod_without_68 (fun H locs hP hS => ?_)
  replace hP : va_P D classes (xw_M ad cI cZ t10) H := by rw [e_t10]; exact hP
  clear e_t10
  refine lv_aload_n hx hb d_Mod_without_69 rfl (lv_at hl 4 rfl) ?_
  refine lv_iload hx hb d_Mod_without_70 (lv_at hl 0 rfl) ?_
  obtain ⟨t11, h_t11, hF⟩ := xo_ob hF
  refine xk_goV (xk_runV (As := [.int v4]) (rest := []) hx hb hml hown hts hK hE (fun _ h => h) hP hS ok_Mod_lay in_Mod_lay u_828 (c_Mod_lay l D cI cZ ad A adK adV hDw v4 t10 t11 h_t11) (va_recv hK hP (ci := 4) (q0 := 0) rfl xw_M_at_0) (by decide) rfl hl.1 rfl (Nat.le_of_ble_eq_true rfl) d_Mod_without_72 ⟨Nat.le_refl _, Nat.le_refl _⟩) (fun _ h => h) hS (fun H locs hP hS => ?_)
  refine lv_aload_n hx hb d_Mod_without_75 rfl (lv_at hl 4 rfl) ?_
  obtain ⟨v12, h_v12, hF⟩ := xo_ob hF
  refine xk_goI (xk_runV (As := []) (rest := []) hx hb hml hown hts hK hE (fun _ h => h) hP hS ok_Mod_howMany in_Mod_howMany u_845 (c_Mod_howMany l D cI cZ ad A adK adV hDw t11 v12 h_v12) (va_recv hK hP (ci := 4) (q0 := 0) rfl xw_M_at_0) (by decide) rfl hl.1 rfl (Nat.le_of_ble_eq_true rfl) d_Mod_without_76 ⟨Nat.le_refl _, Nat.le_refl _⟩) (fun _ h => h) hS (fun H locs hP hS => ?_)
  refine lv_istore (lv' := [(6, .int v12), (5, .int v4), (4, .int v3), (3, .int v2), (2, .int v1), (0, .ref (ad 0)), (1, .int x1)]) hx hb d_Mod_without_79 hl (by decide) rfl (fun ls hl => ?_)
  refine lv_aload_n hx hb d_Mod_without_81 rfl (lv_at hl 5 rfl) ?_
  refine xk_get (C := R_Mod) (T := F_Mod) (N := 23) hx hb hts i_Mod hown hK hP 0 xw_M_at_0 rfl 2 (by decide) u_668 rfl d_Mod_without_82 ?_
  refine lv_iload_n hx hb d_Mod_without_85 rfl (lv_at hl 6 rfl) ?_
  refine lv_iload_n hx hb d_Mod_without_86 rfl (lv_at hl 4 rfl) ?_
  obtain ⟨_, h_t13, hF⟩ := xo_ob hF
  obtain ⟨t13, e_t13, hF⟩ := xo_nm_e hF
  refine xk_iast hx hb hK hP (hDw _) hS 2 xw_M_at_2 h_t13 (xw_M_set_2 _) d_Mod_without_87 (fun H locs hP hS => ?_)
  replace hP : va_P D classes (xw_M ad cI cZ t13) H := by rw [e_t13]; exact hP
  clear e_t13
  refine lv_aload_n hx hb d_Mod_without_88 rfl (lv_at hl 5 rfl) ?_
  refine xk_get (C := R_Mod) (T := F_Mod) (N := 23) hx hb hts i_Mod hown hK hP 0 xw_M_at_0 rfl 3 (by decide) u_669 rfl d_Mod_without_89 ?_
  refine lv_iload_n hx hb d_Mod_without_92 rfl (lv_at hl 6 rfl) ?_
  refine lv_iload_n hx hb d_Mod_without_93 rfl (lv_at hl 3 rfl) ?_
  obtain ⟨_, h_t14, hF⟩ := xo_ob hF
  obtain ⟨t14, e_t14, hF⟩ := xo_nm_e hF
  refine xk_iast hx hb hK hP (hDw _) hS 3 xw_M_at_3 h_t14 (xw_M_set_3 _) d_Mod_without_94 (fun H locs hP hS => ?_)
  replace hP : va_P D classes (xw_M ad cI cZ t14) H := by rw [e_t14]; exact hP
  clear e_t14
  refine lv_aload_n hx hb d_Mod_without_95 rfl (lv_at hl 5 rfl) ?_
  refine xk_get (C := R_Mod) (T := F_Mod) (N := 23) hx hb hts i_Mod hown hK hP 0 xw_M_at_0 rfl 4 (by decide) u_670 rfl d_Mod_without_96 ?_
  refine lv_iload_n hx hb d_Mod_without_99 rfl (lv_at hl 6 rfl) ?_
  refine lv_iload hx hb d_Mod_without_100 (lv_at hl 2 rfl) ?_
  obtain ⟨_, h_t15, hF⟩ := xo_ob hF
  obtain ⟨t15, e_t15, hF⟩ := xo_nm_e hF
  refine xk_iast hx hb hK hP (hDw _) hS 4 xw_M_at_4 h_t15 (xw_M_set_4 _) d_Mod_without_102 (fun H locs hP hS => ?_)
  replace hP : va_P D classes (xw_M ad cI cZ t15) H := by rw [e_t15]; exact hP
  clear e_t15
  refine lv_iload hx hb d_Mod_without_103 (lv_at hl 0 rfl) ?_
  obtain ⟨q8, q9⟩ := xo_s2 hF
  subst q8
  subst q9
  exact hret 105 _ _ _ d_Mod_without_105 rfl hP hS
set_option maxHeartbeats 4000000 in
set_option maxRecDepth 100000 in
theorem c_Mod_taken (l : Launch) (D : va_G) (cI cZ : ClassId) (ad : Nat → Nat) (A : Nat → Prop) (adK adV : Nat → Nat) (hDw : ∀ st : XS, va_D A (xw_M ad cI cZ st)) (x1 : Int32) (st : XS) (r9 : Int32) (st9 : XS) (hF : F_Mod_taken x1 st = some (r9, st9)) : K_I l D cI cZ A adK adV (xw_M ad cI cZ) y_Mod_taken b_Mod_taken 6 (some .int) 4 105 [.ref (ad 0), .int x1] st r9 st9 := by
  refine xk_startI (by decide) .int rfl (Nat.le_of_ble_eq_true rfl) ?_
  intro p e s m args below meth c Q ls hx hb hml hown hts hK hE hP hS hl hret
  replace hown : s.vm.findClass R_Mod = some m.cls := hown
  replace hl : lv_has ls 6 [(0, .ref (ad 0)), (1, .int x1)] := hl
  unfold F_Mod_taken at hF
  refine lv_iload_n hx hb d_Mod_taken_0 rfl (lv_at hl 1 rfl) ?_
  refine lv_iconst (v := (-1 : Int32)) hx hb d_Mod_taken_1 (by decide) ?_
  refine lv_icmp_eq (tgt := 27) hx hb d_Mod_taken_2 (by decide) (fun c_442 => ?_) (fun c_442 => ?_)
  · replace hF := xo_if_t c_442 hF
    refine lv_bipush (v := (-9 : Int32)) hx hb d_Mod_taken_27 (by decide) ?_
    refine lv_istore_n (lv' := [(2, .int (-9 : Int32)), (0, .ref (ad 0)), (1, .int x1)]) hx hb d_Mod_taken_29 rfl hl (by decide) rfl (fun ls hl => ?_)
    refine lv_iconst (v := (0 : Int32)) hx hb d_Mod_taken_30 (by decide) ?_
    refine lv_istore_n (lv' := [(3, .int (0 : Int32)), (2, .int (-9 : Int32)), (0, .ref (ad 0)), (1, .int x1)]) hx hb d_Mod_taken_31 rfl hl (by decide) rfl (fun ls hl => ?_)
    refine lv_iconst (v := (0 : Int32)) hx hb d_Mod_taken_32 (by decide) ?_
    refine lv_istore (lv' := [(4, .int (0 : Int32)), (3, .int (0 : Int32)), (2, .int (-9 : Int32)), (0, .ref (ad 0)), (1, .int x1)]) hx hb d_Mod_taken_33 hl (by decide) rfl (fun ls hl => ?_)
    have lp35 : ∀ (n : Nat) (w35_2 : Int32) (w35_3 : Int32) (w35_4 : Int32) (w35_s : XS) (y : (Int32 × XS)), xo_lp (fun q : (Int32 × Int32 × Int32 × XS) => F_Mod_taken_b35 q.1 q.2.1 q.2.2.1 q.2.2.2) n (w35_2, w35_3, w35_4, w35_s) = some y → (∀ (e2 : Int32) (es : XS), (e2, es) = y → ∀ (H : Heap) (locs : List Loc) (ls : Array Slot), va_P D classes (xw_M ad cI cZ es) H → va_S A s.heap H locs → lv_has ls 6 [(2, .int e2)] → W p l e (xk_rm 4 105) s m args below meth c H locs 0 0 Q (F0 m 77 ls [])) → ∀ (H : Heap) (locs : List Loc) (ls : Array Slot), va_P D classes (xw_M ad cI cZ w35_s) H → va_S A s.heap H locs → lv_has ls 6 [(0, .ref (ad 0)), (2, .int w35_2), (3, .int w35_3), (4, .int w35_4)] → W p l e (xk_rm 4 105) s m args below meth c H locs 0 0 Q (F0 m 35 ls []) := by
      intro n
      induction n with
      | zero =>
        intro w35_2 w35_3 w35_4 w35_s y hL
        exact nomatch (show (none : Option _) = some y from hL)
      | succ n ih =>
        intro w35_2 w35_3 w35_4 w35_s y hL kx0 H locs ls hP hS hl
        obtain ⟨z9, hB, hL⟩ := xo_lp_s hL
        replace hB : F_Mod_taken_b35 w35_2 w35_3 w35_4 w35_s = some z9 := hB
        unfold F_Mod_taken_b35 at hB
        have mg65 : ∀ (x4 : Int32) (x5 : Int32) (xs : XS), F_Mod_taken_m65 x4 x5 xs = some z9 → ∀ (H : Heap) (locs : List Loc) (ls : Array Slot), va_P D classes (xw_M ad cI cZ xs) H → va_S A s.heap H locs → lv_has ls 6 [(0, .ref (ad 0)), (4, .int x4), (5, .int x5)] → W p l e (xk_rm 4 105) s m args below meth c H locs 0 0 Q (F0 m 65 ls []) := by
          intro x4 x5 xs hB H locs ls hP hS hl
          unfold F_Mod_taken_m65 at hB
          refine lv_iload hx hb d_Mod_taken_65 (lv_at hl 1 rfl) ?_
          refine lv_istore_n (lv' := [(2, .int x4), (0, .ref (ad 0)), (4, .int x4), (5, .int x5)]) hx hb d_Mod_taken_67 rfl hl (by decide) rfl (fun ls hl => ?_)
          refine lv_iload hx hb d_Mod_taken_68 (lv_at hl 3 rfl) ?_
          refine lv_istore_n (lv' := [(3, .int x5), (2, .int x4), (0, .ref (ad 0)), (4, .int x4), (5, .int x5)]) hx hb d_Mod_taken_70 rfl hl (by decide) rfl (fun ls hl => ?_)
          obtain ⟨v3, e_v3, hB⟩ := xo_nm_e hB
          refine lv_iinc (v := v3) (lv' := [(4, .int v3), (3, .int x5), (2, .int x4), (0, .ref (ad 0)), (5, .int x5)]) hx hb d_Mod_taken_71 hl (k := 3) rfl (by rw [e_v3]; rfl) (by decide) rfl (fun ls hl => ?_)
          clear e_v3
          refine lv_goto (tgt := 35) hx hb d_Mod_taken_74 (by decide) ?_
          have q9 := Option.some.inj hB
          subst q9
          exact ih _ _ _ _ _ (xo_elL hL) kx0 _ _ _ hP hS (lv_sub hl [3, 2, 1, 0] rfl)
        refine lv_iload hx hb d_Mod_taken_35 (lv_at hl 3 rfl) ?_
        refine lv_aload_n hx hb d_Mod_taken_37 rfl (lv_at hl 0 rfl) ?_
        refine xk_get (C := R_Mod) (T := F_Mod) (N := 23) hx hb hts i_Mod hown hK hP 0 xw_M_at_0 rfl 0 (by decide) u_666 rfl d_Mod_taken_38 ?_
        refine lv_icmp_ge (tgt := 77) hx hb d_Mod_taken_41 (by decide) (fun c_443 => ?_) (fun c_443 => ?_)
        · replace hB := xo_if_t c_443 hB
          have q9 := Option.some.inj hB
          subst q9
          replace hL := Option.some.inj (xo_elR hL)
          subst hL
          exact kx0 _ _ rfl _ _ _ hP hS (lv_sub hl [1] rfl)
        · replace hB := xo_if_f c_443 hB
          refine lv_aload_n hx hb d_Mod_taken_44 rfl (lv_at hl 0 rfl) ?_
          refine lv_iload hx hb d_Mod_taken_45 (lv_at hl 3 rfl) ?_
          obtain ⟨v4, t5, h_v4, hB⟩ := xo_ob2 hB
          refine xk_goI (xk_runV (As := [.int w35_4]) (rest := []) hx hb hml hown hts hK hE (fun _ h => h) hP hS ok_Mod_without in_Mod_without u_945 (c_Mod_without l D cI cZ ad A adK adV hDw w35_4 w35_s v4 t5 h_v4) (va_recv hK hP (ci := 4) (q0 := 0) rfl xw_M_at_0) (by decide) rfl hl.1 rfl (Nat.le_of_ble_eq_true rfl) d_Mod_taken_47 ⟨Nat.le_refl _, Nat.le_refl _⟩) (fun _ h => h) hS (fun H locs hP hS => ?_)
          refine lv_istore (lv' := [(5, .int v4), (0, .ref (ad 0)), (2, .int w35_2), (3, .int w35_3), (4, .int w35_4)]) hx hb d_Mod_taken_50 hl (by decide) rfl (fun ls hl => ?_)
          refine lv_iload_n hx hb d_Mod_taken_52 rfl (lv_at hl 2 rfl) ?_
          refine lv_if_lt (tgt := 65) hx hb d_Mod_taken_53 (by decide) (fun c_444 => ?_) (fun c_444 => ?_)
          · replace hB := xo_if_t c_444 hB
            exact mg65 _ _ _ hB _ _ _ hP hS (lv_sub hl [1, 4, 0] rfl)
          · replace hB := xo_if_f c_444 hB
            refine lv_iload hx hb d_Mod_taken_56 (lv_at hl 0 rfl) ?_
            refine lv_iload_n hx hb d_Mod_taken_58 rfl (lv_at hl 3 rfl) ?_
            refine lv_icmp_lt (tgt := 65) hx hb d_Mod_taken_59 (by decide) (fun c_445 => ?_) (fun c_445 => ?_)
            · replace hB := xo_if_t c_445 hB
              exact mg65 _ _ _ hB _ _ _ hP hS (lv_sub hl [1, 4, 0] rfl)
            · replace hB := xo_if_f c_445 hB
              refine lv_goto (tgt := 71) hx hb d_Mod_taken_62 (by decide) ?_
              obtain ⟨v6, e_v6, hB⟩ := xo_nm_e hB
              refine lv_iinc (v := v6) (lv' := [(4, .int v6), (5, .int v4), (0, .ref (ad 0)), (2, .int w35_2), (3, .int w35_3)]) hx hb d_Mod_taken_71 hl (k := 4) rfl (by rw [e_v6]; rfl) (by decide) rfl (fun ls hl => ?_)
              clear e_v6
              refine lv_goto (tgt := 35) hx hb d_Mod_taken_74 (by decide) ?_
              have q9 := Option.some.inj hB
              subst q9
              exact ih _ _ _ _ _ (xo_elL hL) kx0 _ _ _ hP hS (lv_sub hl [2, 3, 4, 0] rfl)
    obtain ⟨y35, hL35, hF⟩ := xo_ob hF
    refine lp35 1000000 (-9 : Int32) (0 : Int32) (0 : Int32) st y35 hL35 ?_ _ _ _ hP hS (lv_sub hl [3, 2, 1, 0] rfl)
    intro o1 t2 ey H locs ls hP hS hl
    subst ey
    replace hF := xo_u2e hF
    refine lv_iload_n hx hb d_Mod_taken_77 rfl (lv_at hl 0 rfl) ?_
    obtain ⟨q8, q9⟩ := xo_s2 hF
    subst q8
    subst q9
    exact hret 78 _ _ _ d_Mod_taken_78 rfl hP hS
  · replace hF := xo_if_f c_442 hF
    refine lv_aload_n hx hb d_Mod_taken_5 rfl (lv_at hl 0 rfl) ?_
    refine lv_iload_n hx hb d_Mod_taken_6 rfl (lv_at hl 1 rfl) ?_
    obtain ⟨v7, h_v7, hF⟩ := xo_ob hF
    refine xk_goI (xk_runV (As := [.int x1]) (rest := []) hx hb hml hown hts hK hE (fun _ h => h) hP hS ok_Mod_isStreet in_Mod_isStreet u_786 (c_Mod_isStreet l D cI cZ ad A adK adV hDw x1 st v7 h_v7) (va_recv hK hP (ci := 4) (q0 := 0) rfl xw_M_at_0) (by decide) rfl hl.1 rfl (Nat.le_of_ble_eq_true rfl) d_Mod_taken_7 ⟨Nat.le_refl _, Nat.le_refl _⟩) (fun _ h => h) hS (fun H locs hP hS => ?_)
    refine lv_if_eq (tgt := 21) hx hb d_Mod_taken_10 (by decide) (fun c_446 => ?_) (fun c_446 => ?_)
    · replace hF := xo_if_t c_446 hF
      refine lv_aload_n hx hb d_Mod_taken_21 rfl (lv_at hl 0 rfl) ?_
      refine lv_iconst (v := (-1 : Int32)) hx hb d_Mod_taken_22 (by decide) ?_
      obtain ⟨v8, t9, h_v8, hF⟩ := xo_ob2 hF
      refine xk_goI (xk_runV (As := [.int (-1 : Int32)]) (rest := []) hx hb hml hown hts hK hE (fun _ h => h) hP hS ok_Mod_no in_Mod_no u_741 (c_Mod_no l D cI cZ ad A adK adV hDw (-1 : Int32) st v8 t9 h_v8) (va_recv hK hP (ci := 4) (q0 := 0) rfl xw_M_at_0) (by decide) rfl hl.1 rfl (Nat.le_of_ble_eq_true rfl) d_Mod_taken_23 ⟨Nat.le_refl _, Nat.le_refl _⟩) (fun _ h => h) hS (fun H locs hP hS => ?_)
      obtain ⟨q8, q9⟩ := xo_s2 hF
      subst q8
      subst q9
      exact hret 26 _ _ _ d_Mod_taken_26 rfl hP hS
    · replace hF := xo_if_f c_446 hF
      refine lv_aload_n hx hb d_Mod_taken_13 rfl (lv_at hl 0 rfl) ?_
      refine lv_iload_n hx hb d_Mod_taken_14 rfl (lv_at hl 1 rfl) ?_
      obtain ⟨v10, t11, h_v10, hF⟩ := xo_ob2 hF
      refine xk_goI (xk_runV (As := [.int x1]) (rest := []) hx hb hml hown hts hK hE (fun _ h => h) hP hS ok_Mod_without in_Mod_without u_945 (c_Mod_without l D cI cZ ad A adK adV hDw x1 st v10 t11 h_v10) (va_recv hK hP (ci := 4) (q0 := 0) rfl xw_M_at_0) (by decide) rfl hl.1 rfl (Nat.le_of_ble_eq_true rfl) d_Mod_taken_15 ⟨Nat.le_refl _, Nat.le_refl _⟩) (fun _ h => h) hS (fun H locs hP hS => ?_)
      refine lv_goto (tgt := 26) hx hb d_Mod_taken_18 (by decide) ?_
      obtain ⟨q8, q9⟩ := xo_s2 hF
      subst q8
      subst q9
      exact hret 26 _ _ _ d_Mod_taken_26 rfl hP hS
set_option maxHeartbeats 4000000 in
set_option maxRecDepth 100000 in
theorem c_Mod_row (l : Launch) (D : va_G) (cI cZ : ClassId) (ad : Nat → Nat) (A : Nat → Prop) (adK adV : Nat → Nat) (hDw : ∀ st : XS, va_D A (xw_M ad cI cZ st)) (x1 : Int32) (st : XS) (r9 : Int32) (st9 : XS) (hF : F_Mod_row x1 st = some (r9, st9)) : K_I l D cI cZ A adK adV (xw_M ad cI cZ) y_Mod_row b_Mod_row 2 (some .int) 1 21 [.ref (ad 0), .int x1] st r9 st9 := by
  refine xk_startI (by decide) .int rfl (Nat.le_of_ble_eq_true rfl) ?_
  intro p e s m args below meth c Q ls hx hb hml hown hts hK hE hP hS hl hret
  replace hown : s.vm.findClass R_Mod = some m.cls := hown
  replace hl : lv_has ls 2 [(0, .ref (ad 0)), (1, .int x1)] := hl
  unfold F_Mod_row at hF
  have mg26 : ∀ (xs : XS), F_Mod_row_m26 xs = some (r9, st9) → ∀ (H : Heap) (locs : List Loc) (ls : Array Slot), va_P D classes (xw_M ad cI cZ xs) H → va_S A s.heap H locs → lv_has ls 2 [(0, .ref (ad 0))] → W p l e (xk_rm 1 21) s m args below meth c H locs 0 0 Q (F0 m 26 ls []) := by
    intro xs hF H locs ls hP hS hl
    unfold F_Mod_row_m26 at hF
    refine lv_aload_n hx hb d_Mod_row_26 rfl (lv_at hl 0 rfl) ?_
    refine lv_bipush (v := (-6 : Int32)) hx hb d_Mod_row_27 (by decide) ?_
    obtain ⟨v1, t2, h_v1, hF⟩ := xo_ob2 hF
    refine xk_goI (xk_runV (As := [.int (-6 : Int32)]) (rest := []) hx hb hml hown hts hK hE (fun _ h => h) hP hS ok_Mod_no in_Mod_no u_741 (c_Mod_no l D cI cZ ad A adK adV hDw (-6 : Int32) xs v1 t2 h_v1) (va_recv hK hP (ci := 4) (q0 := 0) rfl xw_M_at_0) (by decide) rfl hl.1 rfl (Nat.le_of_ble_eq_true rfl) d_Mod_row_29 ⟨Nat.le_refl _, Nat.le_refl _⟩) (fun _ h => h) hS (fun H locs hP hS => ?_)
    obtain ⟨q8, q9⟩ := xo_s2 hF
    subst q8
    subst q9
    exact hret 32 _ _ _ d_Mod_row_32 rfl hP hS
  refine lv_iload_n hx hb d_Mod_row_0 rfl (lv_at hl 1 rfl) ?_
  refine lv_if_ge (tgt := 11) hx hb d_Mod_row_1 (by decide) (fun c_447 => ?_) (fun c_447 => ?_)
  · replace hF := xo_if_t c_447 hF
    refine lv_iload_n hx hb d_Mod_row_11 rfl (lv_at hl 1 rfl) ?_
    refine lv_bipush (v := (63 : Int32)) hx hb d_Mod_row_12 (by decide) ?_
    refine lv_icmp_gt (tgt := 26) hx hb d_Mod_row_14 (by decide) (fun c_448 => ?_) (fun c_448 => ?_)
    · replace hF := xo_if_t c_448 hF
      exact mg26 _ hF _ _ _ hP hS (lv_sub hl [0] rfl)
    · replace hF := xo_if_f c_448 hF
      refine lv_aload_n hx hb d_Mod_row_17 rfl (lv_at hl 0 rfl) ?_
      refine xk_get (C := R_Mod) (T := F_Mod) (N := 23) hx hb hts i_Mod hown hK hP 0 xw_M_at_0 rfl 12 (by decide) u_678 rfl d_Mod_row_18 ?_
      refine lv_bipush (v := (12 : Int32)) hx hb d_Mod_row_21 (by decide) ?_
      refine lv_icmp_ne (tgt := 33) hx hb d_Mod_row_23 (by decide) (fun c_449 => ?_) (fun c_449 => ?_)
      · replace hF := xo_if_f c_449 hF
        refine lv_aload_n hx hb d_Mod_row_33 rfl (lv_at hl 0 rfl) ?_
        refine xk_get (C := R_Mod) (T := F_Mod) (N := 23) hx hb hts i_Mod hown hK hP 0 xw_M_at_0 rfl 13 (by decide) u_679 rfl d_Mod_row_34 ?_
        refine lv_aload_n hx hb d_Mod_row_37 rfl (lv_at hl 0 rfl) ?_
        refine lv_dup hx hb d_Mod_row_38 rfl ?_
        refine xk_get (C := R_Mod) (T := F_Mod) (N := 23) hx hb hts i_Mod hown hK hP 0 xw_M_at_0 rfl 12 (by decide) u_678 rfl d_Mod_row_39 ?_
        refine lv_dup_x1 hx hb d_Mod_row_42 rfl rfl ?_
        refine lv_iconst (v := (1 : Int32)) hx hb d_Mod_row_43 (by decide) ?_
        refine lv_iadd hx hb d_Mod_row_44 ?_
        obtain ⟨t3, e_t3, hF⟩ := xo_nm_e hF
        refine xk_put (C := R_Mod) (T := F_Mod) (N := 23) (ty := .int) hx hb hts i_Mod t_Mod t_Mod_ok n_Mod hown hK hP (hDw _) hS 0 xw_M_at_0 rfl 12 (by decide) u_678 rfl (by decide +kernel) rfl rfl (Nat.le_of_ble_eq_true rfl) (xw_M_put_0_12 _) d_Mod_row_45 (fun H locs hP hS => ?_)
        replace hP : va_P D classes (xw_M ad cI cZ t3) H := by rw [e_t3]; exact hP
        clear e_t3
        refine lv_iload_n hx hb d_Mod_row_48 rfl (lv_at hl 1 rfl) ?_
        obtain ⟨_, h_t4, hF⟩ := xo_ob hF
        obtain ⟨t4, e_t4, hF⟩ := xo_nm_e hF
        refine xk_iast hx hb hK hP (hDw _) hS 9 xw_M_at_13 h_t4 (xw_M_set_13 _) d_Mod_row_49 (fun H locs hP hS => ?_)
        replace hP : va_P D classes (xw_M ad cI cZ t4) H := by rw [e_t4]; exact hP
        clear e_t4
        refine lv_aload_n hx hb d_Mod_row_50 rfl (lv_at hl 0 rfl) ?_
        refine xk_get (C := R_Mod) (T := F_Mod) (N := 23) hx hb hts i_Mod hown hK hP 0 xw_M_at_0 rfl 12 (by decide) u_678 rfl d_Mod_row_51 ?_
        obtain ⟨q8, q9⟩ := xo_s2 hF
        subst q8
        subst q9
        exact hret 54 _ _ _ d_Mod_row_54 rfl hP hS
      · replace hF := xo_if_t c_449 hF
        exact mg26 _ hF _ _ _ hP hS (lv_sub hl [0] rfl)
  · replace hF := xo_if_f c_447 hF
    refine lv_aload_n hx hb d_Mod_row_4 rfl (lv_at hl 0 rfl) ?_
    refine lv_bipush (v := (-4 : Int32)) hx hb d_Mod_row_5 (by decide) ?_
    obtain ⟨v5, t6, h_v5, hF⟩ := xo_ob2 hF
    refine xk_goI (xk_runV (As := [.int (-4 : Int32)]) (rest := []) hx hb hml hown hts hK hE (fun _ h => h) hP hS ok_Mod_no in_Mod_no u_741 (c_Mod_no l D cI cZ ad A adK adV hDw (-4 : Int32) st v5 t6 h_v5) (va_recv hK hP (ci := 4) (q0 := 0) rfl xw_M_at_0) (by decide) rfl hl.1 rfl (Nat.le_of_ble_eq_true rfl) d_Mod_row_7 ⟨Nat.le_refl _, Nat.le_refl _⟩) (fun _ h => h) hS (fun H locs hP hS => ?_)
    obtain ⟨q8, q9⟩ := xo_s2 hF
    subst q8
    subst q9
    exact hret 10 _ _ _ d_Mod_row_10 rfl hP hS
set_option maxHeartbeats 4000000 in
set_option maxRecDepth 100000 in
theorem c_Mod_judge (l : Launch) (D : va_G) (cI cZ : ClassId) (ad : Nat → Nat) (A : Nat → Prop) (adK adV : Nat → Nat) (hDw : ∀ st : XS, va_D A (xw_M ad cI cZ st)) (st : XS) (r9 : Int32) (st9 : XS) (hF : F_Mod_judge  st = some (r9, st9)) : K_I l D cI cZ A adK adV (xw_M ad cI cZ) y_Mod_judge b_Mod_judge 3 (some .int) 4 100 [.ref (ad 0)] st r9 st9 := by
  refine xk_startI (by decide) .int rfl (Nat.le_of_ble_eq_true rfl) ?_
  intro p e s m args below meth c Q ls hx hb hml hown hts hK hE hP hS hl hret
  replace hown : s.vm.findClass R_Mod = some m.cls := hown
  replace hl : lv_has ls 3 [(0, .ref (ad 0))] := hl
  unfold F_Mod_judge at hF
  refine lv_aload_n hx hb d_Mod_judge_0 rfl (lv_at hl 0 rfl) ?_
  refine xk_get (C := R_Mod) (T := F_Mod) (N := 23) hx hb hts i_Mod hown hK hP 0 xw_M_at_0 rfl 12 (by decide) u_678 rfl d_Mod_judge_1 ?_
  refine lv_topi (fun v1 e_v1 => ?_)
  replace hF := xo_nm_u hF e_v1
  clear e_v1
  refine lv_istore_n (lv' := [(1, .int v1), (0, .ref (ad 0))]) hx hb d_Mod_judge_4 rfl hl (by decide) rfl (fun ls hl => ?_)
  refine lv_aload_n hx hb d_Mod_judge_5 rfl (lv_at hl 1 rfl) ?_
  refine lv_iconst (v := (0 : Int32)) hx hb d_Mod_judge_6 (by decide) ?_
  obtain ⟨t2, e_t2, hF⟩ := xo_nm_e hF
  refine xk_put (C := R_Mod) (T := F_Mod) (N := 23) (ty := .int) hx hb hts i_Mod t_Mod t_Mod_ok n_Mod hown hK hP (hDw _) hS 0 xw_M_at_0 rfl 12 (by decide) u_678 rfl (by decide +kernel) rfl rfl (Nat.le_of_ble_eq_true rfl) (xw_M_put_0_12 _) d_Mod_judge_7 (fun H locs hP hS => ?_)
  replace hP : va_P D classes (xw_M ad cI cZ t2) H := by rw [e_t2]; exact hP
  clear e_t2
  refine lv_iconst (v := (0 : Int32)) hx hb d_Mod_judge_10 (by decide) ?_
  refine lv_istore_n (lv' := [(2, .int (0 : Int32)), (1, .int v1), (0, .ref (ad 0))]) hx hb d_Mod_judge_11 rfl hl (by decide) rfl (fun ls hl => ?_)
  have lp12 : ∀ (n : Nat) (w12_2 : Int32) (w12_s : XS) (y : ((Int32 × XS) ⊕ XS)), xo_lp (fun q : (Int32 × XS) => F_Mod_judge_b12 v1 q.1 q.2) n (w12_2, w12_s) = some y → (∀ (e2 : Int32) (es : XS), (.inl (e2, es)) = y → ∀ (H : Heap) (locs : List Loc) (ls : Array Slot), va_P D classes (xw_M ad cI cZ es) H → va_S A s.heap H locs → lv_has ls 3 [(2, .int e2)] → W p l e (xk_rm 4 100) s m args below meth c H locs 0 0 Q (F0 m 56 ls [])) → (∀  (es : XS), (.inr es) = y → ∀ (H : Heap) (locs : List Loc) (ls : Array Slot), va_P D classes (xw_M ad cI cZ es) H → va_S A s.heap H locs → lv_has ls 3 [] → W p l e (xk_rm 4 100) s m args below meth c H locs 0 0 Q (F0 m 64 ls [])) → ∀ (H : Heap) (locs : List Loc) (ls : Array Slot), va_P D classes (xw_M ad cI cZ w12_s) H → va_S A s.heap H locs → lv_has ls 3 [(0, .ref (ad 0)), (1, .int v1), (2, .int w12_2)] → W p l e (xk_rm 4 100) s m args below meth c H locs 0 0 Q (F0 m 12 ls []) := by
    intro n
    induction n with
    | zero =>
      intro w12_2 w12_s y hL
      exact nomatch (show (none : Option _) = some y from hL)
    | succ n ih =>
      intro w12_2 w12_s y hL kx0 kx1 H locs ls hP hS hl
      obtain ⟨z9, hB, hL⟩ := xo_lp_s hL
      replace hB : F_Mod_judge_b12 v1 w12_2 w12_s = some z9 := hB
      unfold F_Mod_judge_b12 at hB
      refine lv_iload_n hx hb d_Mod_judge_12 rfl (lv_at hl 2 rfl) ?_
      refine lv_iload_n hx hb d_Mod_judge_13 rfl (lv_at hl 1 rfl) ?_
      refine lv_icmp_ge (tgt := 64) hx hb d_Mod_judge_14 (by decide) (fun c_450 => ?_) (fun c_450 => ?_)
      · replace hB := xo_if_t c_450 hB
        have q9 := Option.some.inj hB
        subst q9
        replace hL := Option.some.inj (xo_elR hL)
        subst hL
        exact kx1 _ rfl _ _ _ hP hS (lv_sub hl [] rfl)
      · replace hB := xo_if_f c_450 hB
        refine lv_aload_n hx hb d_Mod_judge_17 rfl (lv_at hl 0 rfl) ?_
        refine lv_aload_n hx hb d_Mod_judge_18 rfl (lv_at hl 0 rfl) ?_
        refine xk_get (C := R_Mod) (T := F_Mod) (N := 23) hx hb hts i_Mod hown hK hP 0 xw_M_at_0 rfl 13 (by decide) u_679 rfl d_Mod_judge_19 ?_
        refine lv_iload_n hx hb d_Mod_judge_22 rfl (lv_at hl 2 rfl) ?_
        obtain ⟨v6, h_v6, hB⟩ := xo_ob hB
        refine xk_iald hx hb hK hP 9 xw_M_at_13 h_v6 d_Mod_judge_23 ?_
        obtain ⟨v7, t8, h_v7, hB⟩ := xo_ob2 hB
        refine xk_goI (xk_runV (As := [.int v6]) (rest := []) hx hb hml hown hts hK hE (fun _ h => h) hP hS ok_Mod_isQuarter in_Mod_isQuarter u_861 (c_Mod_isQuarter l D cI cZ ad A adK adV hDw v6 w12_s v7 t8 h_v7) (va_recv hK hP (ci := 4) (q0 := 0) rfl xw_M_at_0) (by decide) rfl hl.1 rfl (Nat.le_of_ble_eq_true rfl) d_Mod_judge_24 ⟨Nat.le_refl _, Nat.le_refl _⟩) (fun _ h => h) hS (fun H locs hP hS => ?_)
        refine lv_if_eq (tgt := 56) hx hb d_Mod_judge_27 (by decide) (fun c_451 => ?_) (fun c_451 => ?_)
        · replace hB := xo_if_t c_451 hB
          have q9 := Option.some.inj hB
          subst q9
          replace hL := Option.some.inj (xo_elR hL)
          subst hL
          exact kx0 _ _ rfl _ _ _ hP hS (lv_sub hl [2] rfl)
        · replace hB := xo_if_f c_451 hB
          refine lv_iload_n hx hb d_Mod_judge_30 rfl (lv_at hl 2 rfl) ?_
          refine lv_if_le (tgt := 58) hx hb d_Mod_judge_31 (by decide) (fun c_452 => ?_) (fun c_452 => ?_)
          · replace hB := xo_if_t c_452 hB
            obtain ⟨v9, e_v9, hB⟩ := xo_nm_e hB
            refine lv_iinc (v := v9) (lv' := [(2, .int v9), (0, .ref (ad 0)), (1, .int v1)]) hx hb d_Mod_judge_58 hl (k := 2) rfl (by rw [e_v9]; rfl) (by decide) rfl (fun ls hl => ?_)
            clear e_v9
            refine lv_goto (tgt := 12) hx hb d_Mod_judge_61 (by decide) ?_
            have q9 := Option.some.inj hB
            subst q9
            exact ih _ _ _ (xo_elL hL) kx0 kx1 _ _ _ hP hS (lv_sub hl [1, 2, 0] rfl)
          · replace hB := xo_if_f c_452 hB
            refine lv_aload_n hx hb d_Mod_judge_34 rfl (lv_at hl 0 rfl) ?_
            refine xk_get (C := R_Mod) (T := F_Mod) (N := 23) hx hb hts i_Mod hown hK hP 0 xw_M_at_0 rfl 13 (by decide) u_679 rfl d_Mod_judge_35 ?_
            refine lv_iload_n hx hb d_Mod_judge_38 rfl (lv_at hl 2 rfl) ?_
            obtain ⟨v10, h_v10, hB⟩ := xo_ob hB
            refine xk_iald hx hb hK hP 9 xw_M_at_13 h_v10 d_Mod_judge_39 ?_
            refine lv_aload_n hx hb d_Mod_judge_40 rfl (lv_at hl 0 rfl) ?_
            refine xk_get (C := R_Mod) (T := F_Mod) (N := 23) hx hb hts i_Mod hown hK hP 0 xw_M_at_0 rfl 13 (by decide) u_679 rfl d_Mod_judge_41 ?_
            refine lv_iload_n hx hb d_Mod_judge_44 rfl (lv_at hl 2 rfl) ?_
            refine lv_iconst (v := (1 : Int32)) hx hb d_Mod_judge_45 (by decide) ?_
            refine lv_isub hx hb d_Mod_judge_46 ?_
            obtain ⟨v11, h_v11, hB⟩ := xo_ob hB
            refine xk_iald hx hb hK hP 9 xw_M_at_13 h_v11 d_Mod_judge_47 ?_
            refine lv_ixor hx hb d_Mod_judge_48 ?_
            obtain ⟨v12, h_v12, hB⟩ := xo_ob hB
            refine xk_goI (xk_runS (As := [.int (v10 ^^^ v11)]) (rest := []) hx hb hml hown hts hK hE (fun _ h => h) hP hS ok_Int_bitCount st_Int_bitCount u_836 (c_Int_bitCount l D cI cZ (xw_M ad cI cZ) A adK adV (v10 ^^^ v11) t8 v12 h_v12) (by decide) rfl hl.1 rfl (Nat.le_of_ble_eq_true rfl) d_Mod_judge_49 ⟨Nat.le_refl _, Nat.le_refl _⟩) (fun _ h => h) hS (fun H locs hP hS => ?_)
            refine lv_iconst (v := (1 : Int32)) hx hb d_Mod_judge_52 (by decide) ?_
            refine lv_icmp_eq (tgt := 58) hx hb d_Mod_judge_53 (by decide) (fun c_453 => ?_) (fun c_453 => ?_)
            · replace hB := xo_if_t c_453 hB
              obtain ⟨v13, e_v13, hB⟩ := xo_nm_e hB
              refine lv_iinc (v := v13) (lv' := [(2, .int v13), (0, .ref (ad 0)), (1, .int v1)]) hx hb d_Mod_judge_58 hl (k := 2) rfl (by rw [e_v13]; rfl) (by decide) rfl (fun ls hl => ?_)
              clear e_v13
              refine lv_goto (tgt := 12) hx hb d_Mod_judge_61 (by decide) ?_
              have q9 := Option.some.inj hB
              subst q9
              exact ih _ _ _ (xo_elL hL) kx0 kx1 _ _ _ hP hS (lv_sub hl [1, 2, 0] rfl)
            · replace hB := xo_if_f c_453 hB
              have q9 := Option.some.inj hB
              subst q9
              replace hL := Option.some.inj (xo_elR hL)
              subst hL
              exact kx0 _ _ rfl _ _ _ hP hS (lv_sub hl [2] rfl)
  obtain ⟨y12, hL12, hF⟩ := xo_ob hF
  refine lp12 1000000 (0 : Int32) t2 y12 hL12 ?_ ?_ _ _ _ hP hS (lv_sub hl [2, 1, 0] rfl)
  · intro o3 t4 ey H locs ls hP hS hl
    subst ey
    replace hF := xo_u2e (xo_elL hF)
    refine lv_iload_n hx hb d_Mod_judge_56 rfl (lv_at hl 0 rfl) ?_
    obtain ⟨q8, q9⟩ := xo_s2 hF
    subst q8
    subst q9
    exact hret 57 _ _ _ d_Mod_judge_57 rfl hP hS
  · intro t5 ey H locs ls hP hS hl
    subst ey
    replace hF := xo_elR hF
    refine lv_bipush (v := (-9 : Int32)) hx hb d_Mod_judge_64 (by decide) ?_
    obtain ⟨q8, q9⟩ := xo_s2 hF
    subst q8
    subst q9
    exact hret 66 _ _ _ d_Mod_judge_66 rfl hP hS
set_option maxHeartbeats 4000000 in
set_option maxRecDepth 100000 in
theorem c_Mod_seeds (l : Launch) (D : va_G) (cI cZ : ClassId) (ad : Nat → Nat) (A : Nat → Prop) (adK adV : Nat → Nat) (hDw : ∀ st : XS, va_D A (xw_M ad cI cZ st)) (x1 : Int32) (x2 : Int32) (st : XS) (r9 : Int32) (st9 : XS) (hF : F_Mod_seeds x1 x2 st = some (r9, st9)) : K_I l D cI cZ A adK adV (xw_M ad cI cZ) y_Mod_seeds b_Mod_seeds 10 (some .int) 2 49 [.ref (ad 0), .int x1, .int x2] st r9 st9 := by
  refine xk_startI (by decide) .int rfl (Nat.le_of_ble_eq_true rfl) ?_
  intro p e s m args below meth c Q ls hx hb hml hown hts hK hE hP hS hl hret
  replace hown : s.vm.findClass R_Mod = some m.cls := hown
  replace hl : lv_has ls 10 [(0, .ref (ad 0)), (1, .int x1), (2, .int x2)] := hl
  unfold F_Mod_seeds at hF
  refine lv_iload_n hx hb d_Mod_seeds_0 rfl (lv_at hl 1 rfl) ?_
  refine lv_iconst (v := (1 : Int32)) hx hb d_Mod_seeds_1 (by decide) ?_
  refine lv_icmp_ge (tgt := 12) hx hb d_Mod_seeds_2 (by decide) (fun c_454 => ?_) (fun c_454 => ?_)
  · replace hF := xo_if_t c_454 hF
    refine lv_iload_n hx hb d_Mod_seeds_12 rfl (lv_at hl 1 rfl) ?_
    refine lv_bipush (v := (30 : Int32)) hx hb d_Mod_seeds_13 (by decide) ?_
    refine lv_icmp_le (tgt := 25) hx hb d_Mod_seeds_15 (by decide) (fun c_455 => ?_) (fun c_455 => ?_)
    · replace hF := xo_if_t c_455 hF
      refine lv_iload_n hx hb d_Mod_seeds_25 rfl (lv_at hl 2 rfl) ?_
      refine lv_istore_n (lv' := [(3, .int x2), (0, .ref (ad 0)), (1, .int x1), (2, .int x2)]) hx hb d_Mod_seeds_26 rfl hl (by decide) rfl (fun ls hl => ?_)
      refine lv_lconst (v := (0 : Int64)) hx hb d_Mod_seeds_27 (by decide) ?_
      refine lv_lstore (lv' := [(4, .long (0 : Int64)), (3, .int x2), (0, .ref (ad 0)), (1, .int x1), (2, .int x2)]) hx hb d_Mod_seeds_28 hl (by decide) rfl (fun ls hl => ?_)
      refine lv_iconst (v := (0 : Int32)) hx hb d_Mod_seeds_30 (by decide) ?_
      refine lv_istore (lv' := [(6, .int (0 : Int32)), (4, .long (0 : Int64)), (3, .int x2), (0, .ref (ad 0)), (1, .int x1), (2, .int x2)]) hx hb d_Mod_seeds_31 hl (by decide) rfl (fun ls hl => ?_)
      have lp33 : ∀ (n : Nat) (w33_3 : Int32) (w33_4 : Int64) (w33_6 : Int32) (y : Int64), xo_lp (fun q : (Int32 × Int64 × Int32) => F_Mod_seeds_b33 x1 st q.1 q.2.1 q.2.2) n (w33_3, w33_4, w33_6) = some y → (∀ (e4 : Int64), e4 = y → ∀ (H : Heap) (locs : List Loc) (ls : Array Slot), va_P D classes (xw_M ad cI cZ st) H → va_S A s.heap H locs → lv_has ls 10 [(4, .long e4)] → W p l e (xk_rm 2 49) s m args below meth c H locs 0 0 Q (F0 m 119 ls [])) → ∀ (H : Heap) (locs : List Loc) (ls : Array Slot), va_P D classes (xw_M ad cI cZ st) H → va_S A s.heap H locs → lv_has ls 10 [(0, .ref (ad 0)), (1, .int x1), (3, .int w33_3), (4, .long w33_4), (6, .int w33_6)] → W p l e (xk_rm 2 49) s m args below meth c H locs 0 0 Q (F0 m 33 ls []) := by
        intro n
        induction n with
        | zero =>
          intro w33_3 w33_4 w33_6 y hL
          exact nomatch (show (none : Option _) = some y from hL)
        | succ n ih =>
          intro w33_3 w33_4 w33_6 y hL kx0 H locs ls hP hS hl
          obtain ⟨z9, hB, hL⟩ := xo_lp_s hL
          replace hB : F_Mod_seeds_b33 x1 st w33_3 w33_4 w33_6 = some z9 := hB
          unfold F_Mod_seeds_b33 at hB
          refine lv_iload hx hb d_Mod_seeds_33 (lv_at hl 4 rfl) ?_
          refine lv_iload_n hx hb d_Mod_seeds_35 rfl (lv_at hl 1 rfl) ?_
          refine lv_icmp_ge (tgt := 119) hx hb d_Mod_seeds_36 (by decide) (fun c_456 => ?_) (fun c_456 => ?_)
          · replace hB := xo_if_t c_456 hB
            have q9 := Option.some.inj hB
            subst q9
            replace hL := Option.some.inj (xo_elR hL)
            subst hL
            exact kx0 _ rfl _ _ _ hP hS (lv_sub hl [3] rfl)
          · replace hB := xo_if_f c_456 hB
            refine lv_iload_n hx hb d_Mod_seeds_39 rfl (lv_at hl 2 rfl) ?_
            refine lv_ldc (v := (1664525 : Int32)) hx hb hown (hts _ u_961) d_Mod_seeds_40 ?_
            refine lv_imul hx hb d_Mod_seeds_42 ?_
            refine lv_ldc (v := (1013904223 : Int32)) hx hb hown (hts _ u_962) d_Mod_seeds_43 ?_
            refine lv_iadd hx hb d_Mod_seeds_45 ?_
            refine lv_topi (fun v2 e_v2 => ?_)
            replace hB := xo_nm_u hB e_v2
            clear e_v2
            refine lv_istore_n (lv' := [(3, .int v2), (0, .ref (ad 0)), (1, .int x1), (4, .long w33_4), (6, .int w33_6)]) hx hb d_Mod_seeds_46 rfl hl (by decide) rfl (fun ls hl => ?_)
            refine lv_iload_n hx hb d_Mod_seeds_47 rfl (lv_at hl 0 rfl) ?_
            refine lv_ldc (v := (2147483647 : Int32)) hx hb hown (hts _ u_963) d_Mod_seeds_48 ?_
            refine lv_iand hx hb d_Mod_seeds_50 ?_
            refine lv_sipush (v := (256 : Int32)) hx hb d_Mod_seeds_51 (by decide) ?_
            obtain ⟨v3, h_v3, hB⟩ := xo_ob hB
            refine xk_idiv hx hb d_Mod_seeds_54 h_v3 ?_
            refine lv_bipush (v := (41 : Int32)) hx hb d_Mod_seeds_55 (by decide) ?_
            obtain ⟨v4, h_v4, hB⟩ := xo_ob hB
            refine xk_irem hx hb d_Mod_seeds_57 h_v4 ?_
            refine lv_bipush (v := (20 : Int32)) hx hb d_Mod_seeds_58 (by decide) ?_
            refine lv_isub hx hb d_Mod_seeds_60 ?_
            refine lv_topi (fun v5 e_v5 => ?_)
            replace hB := xo_nm_u hB e_v5
            clear e_v5
            refine lv_istore (lv' := [(7, .int v5), (3, .int v2), (0, .ref (ad 0)), (1, .int x1), (4, .long w33_4), (6, .int w33_6)]) hx hb d_Mod_seeds_61 hl (by decide) rfl (fun ls hl => ?_)
            refine lv_iload_n hx hb d_Mod_seeds_63 rfl (lv_at hl 1 rfl) ?_
            refine lv_ldc (v := (1664525 : Int32)) hx hb hown (hts _ u_961) d_Mod_seeds_64 ?_
            refine lv_imul hx hb d_Mod_seeds_66 ?_
            refine lv_ldc (v := (1013904223 : Int32)) hx hb hown (hts _ u_962) d_Mod_seeds_67 ?_
            refine lv_iadd hx hb d_Mod_seeds_69 ?_
            refine lv_topi (fun v6 e_v6 => ?_)
            replace hB := xo_nm_u hB e_v6
            clear e_v6
            refine lv_istore_n (lv' := [(3, .int v6), (7, .int v5), (0, .ref (ad 0)), (1, .int x1), (4, .long w33_4), (6, .int w33_6)]) hx hb d_Mod_seeds_70 rfl hl (by decide) rfl (fun ls hl => ?_)
            refine lv_iload_n hx hb d_Mod_seeds_71 rfl (lv_at hl 0 rfl) ?_
            refine lv_ldc (v := (2147483647 : Int32)) hx hb hown (hts _ u_963) d_Mod_seeds_72 ?_
            refine lv_iand hx hb d_Mod_seeds_74 ?_
            refine lv_sipush (v := (256 : Int32)) hx hb d_Mod_seeds_75 (by decide) ?_
            obtain ⟨v7, h_v7, hB⟩ := xo_ob hB
            refine xk_idiv hx hb d_Mod_seeds_78 h_v7 ?_
            refine lv_bipush (v := (41 : Int32)) hx hb d_Mod_seeds_79 (by decide) ?_
            obtain ⟨v8, h_v8, hB⟩ := xo_ob hB
            refine xk_irem hx hb d_Mod_seeds_81 h_v8 ?_
            refine lv_bipush (v := (20 : Int32)) hx hb d_Mod_seeds_82 (by decide) ?_
            refine lv_isub hx hb d_Mod_seeds_84 ?_
            refine lv_topi (fun v9 e_v9 => ?_)
            replace hB := xo_nm_u hB e_v9
            clear e_v9
            refine lv_istore (lv' := [(8, .int v9), (3, .int v6), (7, .int v5), (0, .ref (ad 0)), (1, .int x1), (4, .long w33_4), (6, .int w33_6)]) hx hb d_Mod_seeds_85 hl (by decide) rfl (fun ls hl => ?_)
            refine lv_aload_n hx hb d_Mod_seeds_87 rfl (lv_at hl 3 rfl) ?_
            refine lv_iload hx hb d_Mod_seeds_88 (lv_at hl 2 rfl) ?_
            refine lv_iload hx hb d_Mod_seeds_90 (lv_at hl 0 rfl) ?_
            obtain ⟨v10, h_v10, hB⟩ := xo_ob hB
            refine xk_goI (xk_runV (As := [.int v5, .int v9]) (rest := []) hx hb hml hown hts hK hE (fun _ h => h) hP hS ok_Mod_at in_Mod_at u_897 (c_Mod_at l D cI cZ ad A adK adV hDw v5 v9 st v10 h_v10) (va_recv hK hP (ci := 4) (q0 := 0) rfl xw_M_at_0) (by decide) rfl hl.1 rfl (Nat.le_of_ble_eq_true rfl) d_Mod_seeds_92 ⟨Nat.le_refl _, Nat.le_refl _⟩) (fun _ h => h) hS (fun H locs hP hS => ?_)
            refine lv_istore (lv' := [(9, .int v10), (8, .int v9), (3, .int v6), (7, .int v5), (0, .ref (ad 0)), (1, .int x1), (4, .long w33_4), (6, .int w33_6)]) hx hb d_Mod_seeds_95 hl (by decide) rfl (fun ls hl => ?_)
            refine lv_iload hx hb d_Mod_seeds_97 (lv_at hl 0 rfl) ?_
            refine lv_bipush (v := (-9 : Int32)) hx hb d_Mod_seeds_99 (by decide) ?_
            refine lv_icmp_eq (tgt := 113) hx hb d_Mod_seeds_101 (by decide) (fun c_457 => ?_) (fun c_457 => ?_)
            · replace hB := xo_if_t c_457 hB
              obtain ⟨v11, e_v11, hB⟩ := xo_nm_e hB
              refine lv_iinc (v := v11) (lv' := [(6, .int v11), (9, .int v10), (8, .int v9), (3, .int v6), (7, .int v5), (0, .ref (ad 0)), (1, .int x1), (4, .long w33_4)]) hx hb d_Mod_seeds_113 hl (k := 7) rfl (by rw [e_v11]; rfl) (by decide) rfl (fun ls hl => ?_)
              clear e_v11
              refine lv_goto (tgt := 33) hx hb d_Mod_seeds_116 (by decide) ?_
              have q9 := Option.some.inj hB
              subst q9
              exact ih _ _ _ _ (xo_elL hL) kx0 _ _ _ hP hS (lv_sub hl [5, 6, 3, 7, 0] rfl)
            · replace hB := xo_if_f c_457 hB
              refine lv_lload hx hb d_Mod_seeds_104 (lv_at hl 6 rfl) ?_
              refine lv_lconst (v := (1 : Int64)) hx hb d_Mod_seeds_106 (by decide) ?_
              refine lv_iload hx hb d_Mod_seeds_107 (lv_at hl 0 rfl) ?_
              refine lv_lshl (v := ((1 : Int64) <<< (v10.toInt64 &&& 63))) hx hb d_Mod_seeds_109 rfl ?_
              refine lv_lor hx hb d_Mod_seeds_110 ?_
              refine lv_topl (fun v12 e_v12 => ?_)
              replace hB := xo_nm_u hB e_v12
              clear e_v12
              refine lv_lstore (lv' := [(4, .long v12), (9, .int v10), (8, .int v9), (3, .int v6), (7, .int v5), (0, .ref (ad 0)), (1, .int x1), (6, .int w33_6)]) hx hb d_Mod_seeds_111 hl (by decide) rfl (fun ls hl => ?_)
              obtain ⟨v13, e_v13, hB⟩ := xo_nm_e hB
              refine lv_iinc (v := v13) (lv' := [(6, .int v13), (4, .long v12), (9, .int v10), (8, .int v9), (3, .int v6), (7, .int v5), (0, .ref (ad 0)), (1, .int x1)]) hx hb d_Mod_seeds_113 hl (k := 7) rfl (by rw [e_v13]; rfl) (by decide) rfl (fun ls hl => ?_)
              clear e_v13
              refine lv_goto (tgt := 33) hx hb d_Mod_seeds_116 (by decide) ?_
              have q9 := Option.some.inj hB
              subst q9
              exact ih _ _ _ _ (xo_elL hL) kx0 _ _ _ hP hS (lv_sub hl [6, 7, 4, 1, 0] rfl)
      obtain ⟨y33, hL33, hF⟩ := xo_ob hF
      refine lp33 1000000 x2 (0 : Int64) (0 : Int32) y33 hL33 ?_ _ _ _ hP hS (lv_sub hl [3, 4, 2, 1, 0] rfl)
      intro o1 ey H locs ls hP hS hl
      subst ey
      refine lv_lload hx hb d_Mod_seeds_119 (lv_at hl 0 rfl) ?_
      obtain ⟨v14, h_v14, hF⟩ := xo_ob hF
      refine xk_goI (xk_runS (As := [.long o1]) (rest := []) hx hb hml hown hts hK hE (fun _ h => h) hP hS ok_Lng_bitCount st_Lng_bitCount u_964 (c_Lng_bitCount l D cI cZ (xw_M ad cI cZ) A adK adV o1 st v14 h_v14) (by decide) rfl hl.1 rfl (Nat.le_of_ble_eq_true rfl) d_Mod_seeds_121 ⟨Nat.le_refl _, Nat.le_refl _⟩) (fun _ h => h) hS (fun H locs hP hS => ?_)
      obtain ⟨q8, q9⟩ := xo_s2 hF
      subst q8
      subst q9
      exact hret 124 _ _ _ d_Mod_seeds_124 rfl hP hS
    · replace hF := xo_if_f c_455 hF
      refine lv_aload_n hx hb d_Mod_seeds_18 rfl (lv_at hl 0 rfl) ?_
      refine lv_bipush (v := (-6 : Int32)) hx hb d_Mod_seeds_19 (by decide) ?_
      obtain ⟨v15, t16, h_v15, hF⟩ := xo_ob2 hF
      refine xk_goI (xk_runV (As := [.int (-6 : Int32)]) (rest := []) hx hb hml hown hts hK hE (fun _ h => h) hP hS ok_Mod_no in_Mod_no u_741 (c_Mod_no l D cI cZ ad A adK adV hDw (-6 : Int32) st v15 t16 h_v15) (va_recv hK hP (ci := 4) (q0 := 0) rfl xw_M_at_0) (by decide) rfl hl.1 rfl (Nat.le_of_ble_eq_true rfl) d_Mod_seeds_21 ⟨Nat.le_refl _, Nat.le_refl _⟩) (fun _ h => h) hS (fun H locs hP hS => ?_)
      obtain ⟨q8, q9⟩ := xo_s2 hF
      subst q8
      subst q9
      exact hret 24 _ _ _ d_Mod_seeds_24 rfl hP hS
  · replace hF := xo_if_f c_454 hF
    refine lv_aload_n hx hb d_Mod_seeds_5 rfl (lv_at hl 0 rfl) ?_
    refine lv_bipush (v := (-4 : Int32)) hx hb d_Mod_seeds_6 (by decide) ?_
    obtain ⟨v17, t18, h_v17, hF⟩ := xo_ob2 hF
    refine xk_goI (xk_runV (As := [.int (-4 : Int32)]) (rest := []) hx hb hml hown hts hK hE (fun _ h => h) hP hS ok_Mod_no in_Mod_no u_741 (c_Mod_no l D cI cZ ad A adK adV hDw (-4 : Int32) st v17 t18 h_v17) (va_recv hK hP (ci := 4) (q0 := 0) rfl xw_M_at_0) (by decide) rfl hl.1 rfl (Nat.le_of_ble_eq_true rfl) d_Mod_seeds_8 ⟨Nat.le_refl _, Nat.le_refl _⟩) (fun _ h => h) hS (fun H locs hP hS => ?_)
    obtain ⟨q8, q9⟩ := xo_s2 hF
    subst q8
    subst q9
    exact hret 11 _ _ _ d_Mod_seeds_11 rfl hP hS
set_option maxHeartbeats 4000000 in
set_option maxRecDepth 100000 in
theorem c_Mod_keep_v1 (l : Launch) (D : va_G) (cI cZ : ClassId) (ad : Nat → Nat) (A : Nat → Prop) (adK adV : Nat → Nat) (hDw : ∀ st : XS, va_D A (xw_M ad cI cZ st)) (st : XS) (st9 : XS) (hF : F_Mod_keep_v1  st = some st9) : K_V l D cI cZ A adK adV (xw_M ad cI cZ) y_Mod_keep b_Mod_keep 3 none 0 0 [.ref (ad 0), .ref (ad 16)] st st9 := by
  refine xk_startV (by decide) rfl (Nat.le_of_ble_eq_true rfl) ?_
  intro p e s m args below meth c Q ls hx hb hml hown hts hK hE hP hS hl hret
  replace hown : s.vm.findClass R_Mod = some m.cls := hown
  replace hl : lv_has ls 3 [(0, .ref (ad 0)), (1, .ref (ad 16))] := hl
  unfold F_Mod_keep_v1 at hF
  refine lv_iconst (v := (0 : Int32)) hx hb d_Mod_keep_0 (by decide) ?_
  refine lv_istore_n (lv' := [(2, .int (0 : Int32)), (0, .ref (ad 0)), (1, .ref (ad 16))]) hx hb d_Mod_keep_1 rfl hl (by decide) rfl (fun ls hl => ?_)
  have lp2 : ∀ (n : Nat) (w2_2 : Int32) (w2_s : XS) (y : XS), xo_lp (fun q : (Int32 × XS) => F_Mod_keep_v1_b2 q.1 q.2) n (w2_2, w2_s) = some y → (∀  (es : XS), es = y → ∀ (H : Heap) (locs : List Loc) (ls : Array Slot), va_P D classes (xw_M ad cI cZ es) H → va_S A s.heap H locs → lv_has ls 3 [(0, .ref (ad 0)), (1, .ref (ad 16))] → W p l e (xk_rm 0 0) s m args below meth c H locs 0 0 Q (F0 m 59 ls [])) → ∀ (H : Heap) (locs : List Loc) (ls : Array Slot), va_P D classes (xw_M ad cI cZ w2_s) H → va_S A s.heap H locs → lv_has ls 3 [(0, .ref (ad 0)), (1, .ref (ad 16)), (2, .int w2_2)] → W p l e (xk_rm 0 0) s m args below meth c H locs 0 0 Q (F0 m 2 ls []) := by
    intro n
    induction n with
    | zero =>
      intro w2_2 w2_s y hL
      exact nomatch (show (none : Option _) = some y from hL)
    | succ n ih =>
      intro w2_2 w2_s y hL kx0 H locs ls hP hS hl
      obtain ⟨z9, hB, hL⟩ := xo_lp_s hL
      replace hB : F_Mod_keep_v1_b2 w2_2 w2_s = some z9 := hB
      unfold F_Mod_keep_v1_b2 at hB
      refine lv_iload_n hx hb d_Mod_keep_2 rfl (lv_at hl 2 rfl) ?_
      refine lv_bipush (v := (6 : Int32)) hx hb d_Mod_keep_3 (by decide) ?_
      refine lv_icmp_ge (tgt := 59) hx hb d_Mod_keep_5 (by decide) (fun c_458 => ?_) (fun c_458 => ?_)
      · replace hB := xo_if_t c_458 hB
        have q9 := Option.some.inj hB
        subst q9
        replace hL := Option.some.inj (xo_elR hL)
        subst hL
        exact kx0 _ rfl _ _ _ hP hS (lv_sub hl [0, 1] rfl)
      · replace hB := xo_if_f c_458 hB
        refine lv_aload_n hx hb d_Mod_keep_8 rfl (lv_at hl 1 rfl) ?_
        refine lv_iload_n hx hb d_Mod_keep_9 rfl (lv_at hl 2 rfl) ?_
        refine lv_aload_n hx hb d_Mod_keep_10 rfl (lv_at hl 0 rfl) ?_
        refine xk_get (C := R_Mod) (T := F_Mod) (N := 23) hx hb hts i_Mod hown hK hP 0 xw_M_at_0 rfl 1 (by decide) u_667 rfl d_Mod_keep_11 ?_
        refine lv_iload_n hx hb d_Mod_keep_14 rfl (lv_at hl 2 rfl) ?_
        obtain ⟨v2, h_v2, hB⟩ := xo_ob hB
        refine xk_iald hx hb hK hP 1 xw_M_at_1 h_v2 d_Mod_keep_15 ?_
        obtain ⟨_, h_t3, hB⟩ := xo_ob hB
        obtain ⟨t3, e_t3, hB⟩ := xo_nm_e hB
        refine xk_iast hx hb hK hP (hDw _) hS 11 xw_M_at_16 h_t3 (xw_M_set_16 _) d_Mod_keep_16 (fun H locs hP hS => ?_)
        replace hP : va_P D classes (xw_M ad cI cZ t3) H := by rw [e_t3]; exact hP
        clear e_t3
        refine lv_aload_n hx hb d_Mod_keep_17 rfl (lv_at hl 1 rfl) ?_
        refine lv_bipush (v := (6 : Int32)) hx hb d_Mod_keep_18 (by decide) ?_
        refine lv_iload_n hx hb d_Mod_keep_20 rfl (lv_at hl 2 rfl) ?_
        refine lv_iadd hx hb d_Mod_keep_21 ?_
        refine lv_aload_n hx hb d_Mod_keep_22 rfl (lv_at hl 0 rfl) ?_
        refine xk_get (C := R_Mod) (T := F_Mod) (N := 23) hx hb hts i_Mod hown hK hP 0 xw_M_at_0 rfl 2 (by decide) u_668 rfl d_Mod_keep_23 ?_
        refine lv_iload_n hx hb d_Mod_keep_26 rfl (lv_at hl 2 rfl) ?_
        obtain ⟨v4, h_v4, hB⟩ := xo_ob hB
        refine xk_iald hx hb hK hP 2 xw_M_at_2 h_v4 d_Mod_keep_27 ?_
        obtain ⟨_, h_t5, hB⟩ := xo_ob hB
        obtain ⟨t5, e_t5, hB⟩ := xo_nm_e hB
        refine xk_iast hx hb hK hP (hDw _) hS 11 xw_M_at_16 h_t5 (xw_M_set_16 _) d_Mod_keep_28 (fun H locs hP hS => ?_)
        replace hP : va_P D classes (xw_M ad cI cZ t5) H := by rw [e_t5]; exact hP
        clear e_t5
        refine lv_aload_n hx hb d_Mod_keep_29 rfl (lv_at hl 1 rfl) ?_
        refine lv_bipush (v := (12 : Int32)) hx hb d_Mod_keep_30 (by decide) ?_
        refine lv_iload_n hx hb d_Mod_keep_32 rfl (lv_at hl 2 rfl) ?_
        refine lv_iadd hx hb d_Mod_keep_33 ?_
        refine lv_aload_n hx hb d_Mod_keep_34 rfl (lv_at hl 0 rfl) ?_
        refine xk_get (C := R_Mod) (T := F_Mod) (N := 23) hx hb hts i_Mod hown hK hP 0 xw_M_at_0 rfl 3 (by decide) u_669 rfl d_Mod_keep_35 ?_
        refine lv_iload_n hx hb d_Mod_keep_38 rfl (lv_at hl 2 rfl) ?_
        obtain ⟨v6, h_v6, hB⟩ := xo_ob hB
        refine xk_iald hx hb hK hP 3 xw_M_at_3 h_v6 d_Mod_keep_39 ?_
        obtain ⟨_, h_t7, hB⟩ := xo_ob hB
        obtain ⟨t7, e_t7, hB⟩ := xo_nm_e hB
        refine xk_iast hx hb hK hP (hDw _) hS 11 xw_M_at_16 h_t7 (xw_M_set_16 _) d_Mod_keep_40 (fun H locs hP hS => ?_)
        replace hP : va_P D classes (xw_M ad cI cZ t7) H := by rw [e_t7]; exact hP
        clear e_t7
        refine lv_aload_n hx hb d_Mod_keep_41 rfl (lv_at hl 1 rfl) ?_
        refine lv_bipush (v := (18 : Int32)) hx hb d_Mod_keep_42 (by decide) ?_
        refine lv_iload_n hx hb d_Mod_keep_44 rfl (lv_at hl 2 rfl) ?_
        refine lv_iadd hx hb d_Mod_keep_45 ?_
        refine lv_aload_n hx hb d_Mod_keep_46 rfl (lv_at hl 0 rfl) ?_
        refine xk_get (C := R_Mod) (T := F_Mod) (N := 23) hx hb hts i_Mod hown hK hP 0 xw_M_at_0 rfl 4 (by decide) u_670 rfl d_Mod_keep_47 ?_
        refine lv_iload_n hx hb d_Mod_keep_50 rfl (lv_at hl 2 rfl) ?_
        obtain ⟨v8, h_v8, hB⟩ := xo_ob hB
        refine xk_iald hx hb hK hP 4 xw_M_at_4 h_v8 d_Mod_keep_51 ?_
        obtain ⟨_, h_t9, hB⟩ := xo_ob hB
        obtain ⟨t9, e_t9, hB⟩ := xo_nm_e hB
        refine xk_iast hx hb hK hP (hDw _) hS 11 xw_M_at_16 h_t9 (xw_M_set_16 _) d_Mod_keep_52 (fun H locs hP hS => ?_)
        replace hP : va_P D classes (xw_M ad cI cZ t9) H := by rw [e_t9]; exact hP
        clear e_t9
        obtain ⟨v10, e_v10, hB⟩ := xo_nm_e hB
        refine lv_iinc (v := v10) (lv' := [(2, .int v10), (0, .ref (ad 0)), (1, .ref (ad 16))]) hx hb d_Mod_keep_53 hl (k := 2) rfl (by rw [e_v10]; rfl) (by decide) rfl (fun ls hl => ?_)
        clear e_v10
        refine lv_goto (tgt := 2) hx hb d_Mod_keep_56 (by decide) ?_
        have q9 := Option.some.inj hB
        subst q9
        exact ih _ _ _ (xo_elL hL) kx0 _ _ _ hP hS (lv_sub hl [1, 2, 0] rfl)
  obtain ⟨y2, hL2, hF⟩ := xo_ob hF
  refine lp2 1000000 (0 : Int32) st y2 hL2 ?_ _ _ _ hP hS (lv_sub hl [1, 2, 0] rfl)
  intro t1 ey H locs ls hP hS hl
  subst ey
  refine lv_iconst (v := (0 : Int32)) hx hb d_Mod_keep_59 (by decide) ?_
  refine lv_istore_n (lv' := [(2, .int (0 : Int32)), (0, .ref (ad 0)), (1, .ref (ad 16))]) hx hb d_Mod_keep_60 rfl hl (by decide) rfl (fun ls hl => ?_)
  have lp61 : ∀ (n : Nat) (w61_2 : Int32) (w61_s : XS) (y : XS), xo_lp (fun q : (Int32 × XS) => F_Mod_keep_v1_b61 q.1 q.2) n (w61_2, w61_s) = some y → (∀  (es : XS), es = y → ∀ (H : Heap) (locs : List Loc) (ls : Array Slot), va_P D classes (xw_M ad cI cZ es) H → va_S A s.heap H locs → lv_has ls 3 [(0, .ref (ad 0)), (1, .ref (ad 16))] → W p l e (xk_rm 0 0) s m args below meth c H locs 0 0 Q (F0 m 97 ls [])) → ∀ (H : Heap) (locs : List Loc) (ls : Array Slot), va_P D classes (xw_M ad cI cZ w61_s) H → va_S A s.heap H locs → lv_has ls 3 [(0, .ref (ad 0)), (1, .ref (ad 16)), (2, .int w61_2)] → W p l e (xk_rm 0 0) s m args below meth c H locs 0 0 Q (F0 m 61 ls []) := by
    intro n
    induction n with
    | zero =>
      intro w61_2 w61_s y hL
      exact nomatch (show (none : Option _) = some y from hL)
    | succ n ih =>
      intro w61_2 w61_s y hL kx0 H locs ls hP hS hl
      obtain ⟨z9, hB, hL⟩ := xo_lp_s hL
      replace hB : F_Mod_keep_v1_b61 w61_2 w61_s = some z9 := hB
      unfold F_Mod_keep_v1_b61 at hB
      refine lv_iload_n hx hb d_Mod_keep_61 rfl (lv_at hl 2 rfl) ?_
      refine lv_bipush (v := (8 : Int32)) hx hb d_Mod_keep_62 (by decide) ?_
      refine lv_icmp_ge (tgt := 97) hx hb d_Mod_keep_64 (by decide) (fun c_459 => ?_) (fun c_459 => ?_)
      · replace hB := xo_if_t c_459 hB
        have q9 := Option.some.inj hB
        subst q9
        replace hL := Option.some.inj (xo_elR hL)
        subst hL
        exact kx0 _ rfl _ _ _ hP hS (lv_sub hl [0, 1] rfl)
      · replace hB := xo_if_f c_459 hB
        refine lv_aload_n hx hb d_Mod_keep_67 rfl (lv_at hl 1 rfl) ?_
        refine lv_bipush (v := (24 : Int32)) hx hb d_Mod_keep_68 (by decide) ?_
        refine lv_iload_n hx hb d_Mod_keep_70 rfl (lv_at hl 2 rfl) ?_
        refine lv_iadd hx hb d_Mod_keep_71 ?_
        refine lv_aload_n hx hb d_Mod_keep_72 rfl (lv_at hl 0 rfl) ?_
        refine xk_get (C := R_Mod) (T := F_Mod) (N := 23) hx hb hts i_Mod hown hK hP 0 xw_M_at_0 rfl 6 (by decide) u_672 rfl d_Mod_keep_73 ?_
        refine lv_iload_n hx hb d_Mod_keep_76 rfl (lv_at hl 2 rfl) ?_
        obtain ⟨v12, h_v12, hB⟩ := xo_ob hB
        refine xk_iald hx hb hK hP 5 xw_M_at_6 h_v12 d_Mod_keep_77 ?_
        obtain ⟨_, h_t13, hB⟩ := xo_ob hB
        obtain ⟨t13, e_t13, hB⟩ := xo_nm_e hB
        refine xk_iast hx hb hK hP (hDw _) hS 11 xw_M_at_16 h_t13 (xw_M_set_16 _) d_Mod_keep_78 (fun H locs hP hS => ?_)
        replace hP : va_P D classes (xw_M ad cI cZ t13) H := by rw [e_t13]; exact hP
        clear e_t13
        refine lv_aload_n hx hb d_Mod_keep_79 rfl (lv_at hl 1 rfl) ?_
        refine lv_bipush (v := (32 : Int32)) hx hb d_Mod_keep_80 (by decide) ?_
        refine lv_iload_n hx hb d_Mod_keep_82 rfl (lv_at hl 2 rfl) ?_
        refine lv_iadd hx hb d_Mod_keep_83 ?_
        refine lv_aload_n hx hb d_Mod_keep_84 rfl (lv_at hl 0 rfl) ?_
        refine xk_get (C := R_Mod) (T := F_Mod) (N := 23) hx hb hts i_Mod hown hK hP 0 xw_M_at_0 rfl 7 (by decide) u_673 rfl d_Mod_keep_85 ?_
        refine lv_iload_n hx hb d_Mod_keep_88 rfl (lv_at hl 2 rfl) ?_
        obtain ⟨v14, h_v14, hB⟩ := xo_ob hB
        refine xk_iald hx hb hK hP 6 xw_M_at_7 h_v14 d_Mod_keep_89 ?_
        obtain ⟨_, h_t15, hB⟩ := xo_ob hB
        obtain ⟨t15, e_t15, hB⟩ := xo_nm_e hB
        refine xk_iast hx hb hK hP (hDw _) hS 11 xw_M_at_16 h_t15 (xw_M_set_16 _) d_Mod_keep_90 (fun H locs hP hS => ?_)
        replace hP : va_P D classes (xw_M ad cI cZ t15) H := by rw [e_t15]; exact hP
        clear e_t15
        obtain ⟨v16, e_v16, hB⟩ := xo_nm_e hB
        refine lv_iinc (v := v16) (lv' := [(2, .int v16), (0, .ref (ad 0)), (1, .ref (ad 16))]) hx hb d_Mod_keep_91 hl (k := 2) rfl (by rw [e_v16]; rfl) (by decide) rfl (fun ls hl => ?_)
        clear e_v16
        refine lv_goto (tgt := 61) hx hb d_Mod_keep_94 (by decide) ?_
        have q9 := Option.some.inj hB
        subst q9
        exact ih _ _ _ (xo_elL hL) kx0 _ _ _ hP hS (lv_sub hl [1, 2, 0] rfl)
  obtain ⟨y61, hL61, hF⟩ := xo_ob hF
  refine lp61 1000000 (0 : Int32) t1 y61 hL61 ?_ _ _ _ hP hS (lv_sub hl [1, 2, 0] rfl)
  intro t11 ey H locs ls hP hS hl
  subst ey
  refine lv_aload_n hx hb d_Mod_keep_97 rfl (lv_at hl 1 rfl) ?_
  refine lv_bipush (v := (40 : Int32)) hx hb d_Mod_keep_98 (by decide) ?_
  refine lv_aload_n hx hb d_Mod_keep_100 rfl (lv_at hl 0 rfl) ?_
  refine xk_get (C := R_Mod) (T := F_Mod) (N := 23) hx hb hts i_Mod hown hK hP 0 xw_M_at_0 rfl 0 (by decide) u_666 rfl d_Mod_keep_101 ?_
  obtain ⟨_, h_t17, hF⟩ := xo_ob hF
  obtain ⟨t17, e_t17, hF⟩ := xo_nm_e hF
  refine xk_iast hx hb hK hP (hDw _) hS 11 xw_M_at_16 h_t17 (xw_M_set_16 _) d_Mod_keep_104 (fun H locs hP hS => ?_)
  replace hP : va_P D classes (xw_M ad cI cZ t17) H := by rw [e_t17]; exact hP
  clear e_t17
  refine lv_aload_n hx hb d_Mod_keep_105 rfl (lv_at hl 1 rfl) ?_
  refine lv_bipush (v := (41 : Int32)) hx hb d_Mod_keep_106 (by decide) ?_
  refine lv_aload_n hx hb d_Mod_keep_108 rfl (lv_at hl 0 rfl) ?_
  refine xk_get (C := R_Mod) (T := F_Mod) (N := 23) hx hb hts i_Mod hown hK hP 0 xw_M_at_0 rfl 5 (by decide) u_671 rfl d_Mod_keep_109 ?_
  obtain ⟨_, h_t18, hF⟩ := xo_ob hF
  obtain ⟨t18, e_t18, hF⟩ := xo_nm_e hF
  refine xk_iast hx hb hK hP (hDw _) hS 11 xw_M_at_16 h_t18 (xw_M_set_16 _) d_Mod_keep_112 (fun H locs hP hS => ?_)
  replace hP : va_P D classes (xw_M ad cI cZ t18) H := by rw [e_t18]; exact hP
  clear e_t18
  have q9 := Option.some.inj hF
  subst q9
  exact hret 113 _ _ _ d_Mod_keep_113 hP hS
set_option maxHeartbeats 4000000 in
set_option maxRecDepth 100000 in
theorem c_Mod_image (l : Launch) (D : va_G) (cI cZ : ClassId) (ad : Nat → Nat) (A : Nat → Prop) (adK adV : Nat → Nat) (hDw : ∀ st : XS, va_D A (xw_M ad cI cZ st)) (st : XS) (r9 : Int32) (st9 : XS) (hF : F_Mod_image  st = some (r9, st9)) : K_I l D cI cZ A adK adV (xw_M ad cI cZ) y_Mod_image b_Mod_image 1 (some .int) 1 22 [.ref (ad 0)] st r9 st9 := by
  refine xk_startI (by decide) .int rfl (Nat.le_of_ble_eq_true rfl) ?_
  intro p e s m args below meth c Q ls hx hb hml hown hts hK hE hP hS hl hret
  replace hown : s.vm.findClass R_Mod = some m.cls := hown
  replace hl : lv_has ls 1 [(0, .ref (ad 0))] := hl
  unfold F_Mod_image at hF
  refine lv_aload_n hx hb d_Mod_image_0 rfl (lv_at hl 0 rfl) ?_
  refine lv_iconst (v := (1 : Int32)) hx hb d_Mod_image_1 (by decide) ?_
  obtain ⟨t1, e_t1, hF⟩ := xo_nm_e hF
  refine xk_put (C := R_Mod) (T := F_Mod) (N := 23) (ty := .boolean) hx hb hts i_Mod t_Mod t_Mod_ok n_Mod hown hK hP (hDw _) hS 0 xw_M_at_0 rfl 15 (by decide) u_681 rfl (by decide +kernel) rfl rfl (Nat.le_of_ble_eq_true rfl) (xw_M_put_0_15 _) d_Mod_image_2 (fun H locs hP hS => ?_)
  replace hP : va_P D classes (xw_M ad cI cZ t1) H := by rw [e_t1]; exact hP
  clear e_t1
  refine lv_aload_n hx hb d_Mod_image_5 rfl (lv_at hl 0 rfl) ?_
  refine lv_aload_n hx hb d_Mod_image_6 rfl (lv_at hl 0 rfl) ?_
  refine xk_get (C := R_Mod) (T := F_Mod) (N := 23) hx hb hts i_Mod hown hK hP 0 xw_M_at_0 rfl 16 (by decide) u_682 rfl d_Mod_image_7 ?_
  obtain ⟨t2, h_t2, hF⟩ := xo_ob hF
  refine xk_goV (xk_runV (As := [.ref (ad 16)]) (rest := []) hx hb hml hown hts hK hE (fun _ h => h) hP hS ok_Mod_keep in_Mod_keep u_774 (c_Mod_keep_v1 l D cI cZ ad A adK adV hDw t1 t2 h_t2) (va_recv hK hP (ci := 4) (q0 := 0) rfl xw_M_at_0) (by decide) rfl hl.1 rfl (Nat.le_of_ble_eq_true rfl) d_Mod_image_10 ⟨Nat.le_refl _, Nat.le_refl _⟩) (fun _ h => h) hS (fun H locs hP hS => ?_)
  refine lv_aload_n hx hb d_Mod_image_13 rfl (lv_at hl 0 rfl) ?_
  refine xk_get (C := R_Mod) (T := F_Mod) (N := 23) hx hb hts i_Mod hown hK hP 0 xw_M_at_0 rfl 0 (by decide) u_666 rfl d_Mod_image_14 ?_
  obtain ⟨q8, q9⟩ := xo_s2 hF
  subst q8
  subst q9
  exact hret 17 _ _ _ d_Mod_image_17 rfl hP hS
set_option maxHeartbeats 4000000 in
set_option maxRecDepth 100000 in
theorem c_Mod_again_v1 (l : Launch) (D : va_G) (cI cZ : ClassId) (ad : Nat → Nat) (A : Nat → Prop) (adK adV : Nat → Nat) (hDw : ∀ st : XS, va_D A (xw_M ad cI cZ st)) (st : XS) (st9 : XS) (hF : F_Mod_again_v1  st = some st9) : K_V l D cI cZ A adK adV (xw_M ad cI cZ) y_Mod_again b_Mod_again 3 none 0 0 [.ref (ad 0), .ref (ad 16)] st st9 := by
  refine xk_startV (by decide) rfl (Nat.le_of_ble_eq_true rfl) ?_
  intro p e s m args below meth c Q ls hx hb hml hown hts hK hE hP hS hl hret
  replace hown : s.vm.findClass R_Mod = some m.cls := hown
  replace hl : lv_has ls 3 [(0, .ref (ad 0)), (1, .ref (ad 16))] := hl
  unfold F_Mod_again_v1 at hF
  refine lv_iconst (v := (0 : Int32)) hx hb d_Mod_again_0 (by decide) ?_
  refine lv_istore_n (lv' := [(2, .int (0 : Int32)), (0, .ref (ad 0)), (1, .ref (ad 16))]) hx hb d_Mod_again_1 rfl hl (by decide) rfl (fun ls hl => ?_)
  have lp2 : ∀ (n : Nat) (w2_2 : Int32) (w2_s : XS) (y : XS), xo_lp (fun q : (Int32 × XS) => F_Mod_again_v1_b2 q.1 q.2) n (w2_2, w2_s) = some y → (∀  (es : XS), es = y → ∀ (H : Heap) (locs : List Loc) (ls : Array Slot), va_P D classes (xw_M ad cI cZ es) H → va_S A s.heap H locs → lv_has ls 3 [(0, .ref (ad 0)), (1, .ref (ad 16))] → W p l e (xk_rm 0 0) s m args below meth c H locs 0 0 Q (F0 m 59 ls [])) → ∀ (H : Heap) (locs : List Loc) (ls : Array Slot), va_P D classes (xw_M ad cI cZ w2_s) H → va_S A s.heap H locs → lv_has ls 3 [(0, .ref (ad 0)), (1, .ref (ad 16)), (2, .int w2_2)] → W p l e (xk_rm 0 0) s m args below meth c H locs 0 0 Q (F0 m 2 ls []) := by
    intro n
    induction n with
    | zero =>
      intro w2_2 w2_s y hL
      exact nomatch (show (none : Option _) = some y from hL)
    | succ n ih =>
      intro w2_2 w2_s y hL kx0 H locs ls hP hS hl
      obtain ⟨z9, hB, hL⟩ := xo_lp_s hL
      replace hB : F_Mod_again_v1_b2 w2_2 w2_s = some z9 := hB
      unfold F_Mod_again_v1_b2 at hB
      refine lv_iload_n hx hb d_Mod_again_2 rfl (lv_at hl 2 rfl) ?_
      refine lv_bipush (v := (6 : Int32)) hx hb d_Mod_again_3 (by decide) ?_
      refine lv_icmp_ge (tgt := 59) hx hb d_Mod_again_5 (by decide) (fun c_460 => ?_) (fun c_460 => ?_)
      · replace hB := xo_if_t c_460 hB
        have q9 := Option.some.inj hB
        subst q9
        replace hL := Option.some.inj (xo_elR hL)
        subst hL
        exact kx0 _ rfl _ _ _ hP hS (lv_sub hl [0, 1] rfl)
      · replace hB := xo_if_f c_460 hB
        refine lv_aload_n hx hb d_Mod_again_8 rfl (lv_at hl 0 rfl) ?_
        refine xk_get (C := R_Mod) (T := F_Mod) (N := 23) hx hb hts i_Mod hown hK hP 0 xw_M_at_0 rfl 1 (by decide) u_667 rfl d_Mod_again_9 ?_
        refine lv_iload_n hx hb d_Mod_again_12 rfl (lv_at hl 2 rfl) ?_
        refine lv_aload_n hx hb d_Mod_again_13 rfl (lv_at hl 1 rfl) ?_
        refine lv_iload_n hx hb d_Mod_again_14 rfl (lv_at hl 2 rfl) ?_
        obtain ⟨v2, h_v2, hB⟩ := xo_ob hB
        refine xk_iald hx hb hK hP 11 xw_M_at_16 h_v2 d_Mod_again_15 ?_
        obtain ⟨_, h_t3, hB⟩ := xo_ob hB
        obtain ⟨t3, e_t3, hB⟩ := xo_nm_e hB
        refine xk_iast hx hb hK hP (hDw _) hS 1 xw_M_at_1 h_t3 (xw_M_set_1 _) d_Mod_again_16 (fun H locs hP hS => ?_)
        replace hP : va_P D classes (xw_M ad cI cZ t3) H := by rw [e_t3]; exact hP
        clear e_t3
        refine lv_aload_n hx hb d_Mod_again_17 rfl (lv_at hl 0 rfl) ?_
        refine xk_get (C := R_Mod) (T := F_Mod) (N := 23) hx hb hts i_Mod hown hK hP 0 xw_M_at_0 rfl 2 (by decide) u_668 rfl d_Mod_again_18 ?_
        refine lv_iload_n hx hb d_Mod_again_21 rfl (lv_at hl 2 rfl) ?_
        refine lv_aload_n hx hb d_Mod_again_22 rfl (lv_at hl 1 rfl) ?_
        refine lv_bipush (v := (6 : Int32)) hx hb d_Mod_again_23 (by decide) ?_
        refine lv_iload_n hx hb d_Mod_again_25 rfl (lv_at hl 2 rfl) ?_
        refine lv_iadd hx hb d_Mod_again_26 ?_
        obtain ⟨v4, h_v4, hB⟩ := xo_ob hB
        refine xk_iald hx hb hK hP 11 xw_M_at_16 h_v4 d_Mod_again_27 ?_
        obtain ⟨_, h_t5, hB⟩ := xo_ob hB
        obtain ⟨t5, e_t5, hB⟩ := xo_nm_e hB
        refine xk_iast hx hb hK hP (hDw _) hS 2 xw_M_at_2 h_t5 (xw_M_set_2 _) d_Mod_again_28 (fun H locs hP hS => ?_)
        replace hP : va_P D classes (xw_M ad cI cZ t5) H := by rw [e_t5]; exact hP
        clear e_t5
        refine lv_aload_n hx hb d_Mod_again_29 rfl (lv_at hl 0 rfl) ?_
        refine xk_get (C := R_Mod) (T := F_Mod) (N := 23) hx hb hts i_Mod hown hK hP 0 xw_M_at_0 rfl 3 (by decide) u_669 rfl d_Mod_again_30 ?_
        refine lv_iload_n hx hb d_Mod_again_33 rfl (lv_at hl 2 rfl) ?_
        refine lv_aload_n hx hb d_Mod_again_34 rfl (lv_at hl 1 rfl) ?_
        refine lv_bipush (v := (12 : Int32)) hx hb d_Mod_again_35 (by decide) ?_
        refine lv_iload_n hx hb d_Mod_again_37 rfl (lv_at hl 2 rfl) ?_
        refine lv_iadd hx hb d_Mod_again_38 ?_
        obtain ⟨v6, h_v6, hB⟩ := xo_ob hB
        refine xk_iald hx hb hK hP 11 xw_M_at_16 h_v6 d_Mod_again_39 ?_
        obtain ⟨_, h_t7, hB⟩ := xo_ob hB
        obtain ⟨t7, e_t7, hB⟩ := xo_nm_e hB
        refine xk_iast hx hb hK hP (hDw _) hS 3 xw_M_at_3 h_t7 (xw_M_set_3 _) d_Mod_again_40 (fun H locs hP hS => ?_)
        replace hP : va_P D classes (xw_M ad cI cZ t7) H := by rw [e_t7]; exact hP
        clear e_t7
        refine lv_aload_n hx hb d_Mod_again_41 rfl (lv_at hl 0 rfl) ?_
        refine xk_get (C := R_Mod) (T := F_Mod) (N := 23) hx hb hts i_Mod hown hK hP 0 xw_M_at_0 rfl 4 (by decide) u_670 rfl d_Mod_again_42 ?_
        refine lv_iload_n hx hb d_Mod_again_45 rfl (lv_at hl 2 rfl) ?_
        refine lv_aload_n hx hb d_Mod_again_46 rfl (lv_at hl 1 rfl) ?_
        refine lv_bipush (v := (18 : Int32)) hx hb d_Mod_again_47 (by decide) ?_
        refine lv_iload_n hx hb d_Mod_again_49 rfl (lv_at hl 2 rfl) ?_
        refine lv_iadd hx hb d_Mod_again_50 ?_
        obtain ⟨v8, h_v8, hB⟩ := xo_ob hB
        refine xk_iald hx hb hK hP 11 xw_M_at_16 h_v8 d_Mod_again_51 ?_
        obtain ⟨_, h_t9, hB⟩ := xo_ob hB
        obtain ⟨t9, e_t9, hB⟩ := xo_nm_e hB
        refine xk_iast hx hb hK hP (hDw _) hS 4 xw_M_at_4 h_t9 (xw_M_set_4 _) d_Mod_again_52 (fun H locs hP hS => ?_)
        replace hP : va_P D classes (xw_M ad cI cZ t9) H := by rw [e_t9]; exact hP
        clear e_t9
        obtain ⟨v10, e_v10, hB⟩ := xo_nm_e hB
        refine lv_iinc (v := v10) (lv' := [(2, .int v10), (0, .ref (ad 0)), (1, .ref (ad 16))]) hx hb d_Mod_again_53 hl (k := 2) rfl (by rw [e_v10]; rfl) (by decide) rfl (fun ls hl => ?_)
        clear e_v10
        refine lv_goto (tgt := 2) hx hb d_Mod_again_56 (by decide) ?_
        have q9 := Option.some.inj hB
        subst q9
        exact ih _ _ _ (xo_elL hL) kx0 _ _ _ hP hS (lv_sub hl [1, 2, 0] rfl)
  obtain ⟨y2, hL2, hF⟩ := xo_ob hF
  refine lp2 1000000 (0 : Int32) st y2 hL2 ?_ _ _ _ hP hS (lv_sub hl [1, 2, 0] rfl)
  intro t1 ey H locs ls hP hS hl
  subst ey
  refine lv_iconst (v := (0 : Int32)) hx hb d_Mod_again_59 (by decide) ?_
  refine lv_istore_n (lv' := [(2, .int (0 : Int32)), (0, .ref (ad 0)), (1, .ref (ad 16))]) hx hb d_Mod_again_60 rfl hl (by decide) rfl (fun ls hl => ?_)
  have lp61 : ∀ (n : Nat) (w61_2 : Int32) (w61_s : XS) (y : XS), xo_lp (fun q : (Int32 × XS) => F_Mod_again_v1_b61 q.1 q.2) n (w61_2, w61_s) = some y → (∀  (es : XS), es = y → ∀ (H : Heap) (locs : List Loc) (ls : Array Slot), va_P D classes (xw_M ad cI cZ es) H → va_S A s.heap H locs → lv_has ls 3 [(0, .ref (ad 0)), (1, .ref (ad 16))] → W p l e (xk_rm 0 0) s m args below meth c H locs 0 0 Q (F0 m 97 ls [])) → ∀ (H : Heap) (locs : List Loc) (ls : Array Slot), va_P D classes (xw_M ad cI cZ w61_s) H → va_S A s.heap H locs → lv_has ls 3 [(0, .ref (ad 0)), (1, .ref (ad 16)), (2, .int w61_2)] → W p l e (xk_rm 0 0) s m args below meth c H locs 0 0 Q (F0 m 61 ls []) := by
    intro n
    induction n with
    | zero =>
      intro w61_2 w61_s y hL
      exact nomatch (show (none : Option _) = some y from hL)
    | succ n ih =>
      intro w61_2 w61_s y hL kx0 H locs ls hP hS hl
      obtain ⟨z9, hB, hL⟩ := xo_lp_s hL
      replace hB : F_Mod_again_v1_b61 w61_2 w61_s = some z9 := hB
      unfold F_Mod_again_v1_b61 at hB
      refine lv_iload_n hx hb d_Mod_again_61 rfl (lv_at hl 2 rfl) ?_
      refine lv_bipush (v := (8 : Int32)) hx hb d_Mod_again_62 (by decide) ?_
      refine lv_icmp_ge (tgt := 97) hx hb d_Mod_again_64 (by decide) (fun c_461 => ?_) (fun c_461 => ?_)
      · replace hB := xo_if_t c_461 hB
        have q9 := Option.some.inj hB
        subst q9
        replace hL := Option.some.inj (xo_elR hL)
        subst hL
        exact kx0 _ rfl _ _ _ hP hS (lv_sub hl [0, 1] rfl)
      · replace hB := xo_if_f c_461 hB
        refine lv_aload_n hx hb d_Mod_again_67 rfl (lv_at hl 0 rfl) ?_
        refine xk_get (C := R_Mod) (T := F_Mod) (N := 23) hx hb hts i_Mod hown hK hP 0 xw_M_at_0 rfl 6 (by decide) u_672 rfl d_Mod_again_68 ?_
        refine lv_iload_n hx hb d_Mod_again_71 rfl (lv_at hl 2 rfl) ?_
        refine lv_aload_n hx hb d_Mod_again_72 rfl (lv_at hl 1 rfl) ?_
        refine lv_bipush (v := (24 : Int32)) hx hb d_Mod_again_73 (by decide) ?_
        refine lv_iload_n hx hb d_Mod_again_75 rfl (lv_at hl 2 rfl) ?_
        refine lv_iadd hx hb d_Mod_again_76 ?_
        obtain ⟨v12, h_v12, hB⟩ := xo_ob hB
        refine xk_iald hx hb hK hP 11 xw_M_at_16 h_v12 d_Mod_again_77 ?_
        obtain ⟨_, h_t13, hB⟩ := xo_ob hB
        obtain ⟨t13, e_t13, hB⟩ := xo_nm_e hB
        refine xk_iast hx hb hK hP (hDw _) hS 5 xw_M_at_6 h_t13 (xw_M_set_6 _) d_Mod_again_78 (fun H locs hP hS => ?_)
        replace hP : va_P D classes (xw_M ad cI cZ t13) H := by rw [e_t13]; exact hP
        clear e_t13
        refine lv_aload_n hx hb d_Mod_again_79 rfl (lv_at hl 0 rfl) ?_
        refine xk_get (C := R_Mod) (T := F_Mod) (N := 23) hx hb hts i_Mod hown hK hP 0 xw_M_at_0 rfl 7 (by decide) u_673 rfl d_Mod_again_80 ?_
        refine lv_iload_n hx hb d_Mod_again_83 rfl (lv_at hl 2 rfl) ?_
        refine lv_aload_n hx hb d_Mod_again_84 rfl (lv_at hl 1 rfl) ?_
        refine lv_bipush (v := (32 : Int32)) hx hb d_Mod_again_85 (by decide) ?_
        refine lv_iload_n hx hb d_Mod_again_87 rfl (lv_at hl 2 rfl) ?_
        refine lv_iadd hx hb d_Mod_again_88 ?_
        obtain ⟨v14, h_v14, hB⟩ := xo_ob hB
        refine xk_iald hx hb hK hP 11 xw_M_at_16 h_v14 d_Mod_again_89 ?_
        obtain ⟨_, h_t15, hB⟩ := xo_ob hB
        obtain ⟨t15, e_t15, hB⟩ := xo_nm_e hB
        refine xk_iast hx hb hK hP (hDw _) hS 6 xw_M_at_7 h_t15 (xw_M_set_7 _) d_Mod_again_90 (fun H locs hP hS => ?_)
        replace hP : va_P D classes (xw_M ad cI cZ t15) H := by rw [e_t15]; exact hP
        clear e_t15
        obtain ⟨v16, e_v16, hB⟩ := xo_nm_e hB
        refine lv_iinc (v := v16) (lv' := [(2, .int v16), (0, .ref (ad 0)), (1, .ref (ad 16))]) hx hb d_Mod_again_91 hl (k := 2) rfl (by rw [e_v16]; rfl) (by decide) rfl (fun ls hl => ?_)
        clear e_v16
        refine lv_goto (tgt := 61) hx hb d_Mod_again_94 (by decide) ?_
        have q9 := Option.some.inj hB
        subst q9
        exact ih _ _ _ (xo_elL hL) kx0 _ _ _ hP hS (lv_sub hl [1, 2, 0] rfl)
  obtain ⟨y61, hL61, hF⟩ := xo_ob hF
  refine lp61 1000000 (0 : Int32) t1 y61 hL61 ?_ _ _ _ hP hS (lv_sub hl [1, 2, 0] rfl)
  intro t11 ey H locs ls hP hS hl
  subst ey
  refine lv_aload_n hx hb d_Mod_again_97 rfl (lv_at hl 0 rfl) ?_
  refine lv_aload_n hx hb d_Mod_again_98 rfl (lv_at hl 1 rfl) ?_
  refine lv_bipush (v := (40 : Int32)) hx hb d_Mod_again_99 (by decide) ?_
  obtain ⟨v17, h_v17, hF⟩ := xo_ob hF
  refine xk_iald hx hb hK hP 11 xw_M_at_16 h_v17 d_Mod_again_101 ?_
  obtain ⟨t18, e_t18, hF⟩ := xo_nm_e hF
  refine xk_put (C := R_Mod) (T := F_Mod) (N := 23) (ty := .int) hx hb hts i_Mod t_Mod t_Mod_ok n_Mod hown hK hP (hDw _) hS 0 xw_M_at_0 rfl 0 (by decide) u_666 rfl (by decide +kernel) rfl rfl (Nat.le_of_ble_eq_true rfl) (xw_M_put_0_0 _) d_Mod_again_102 (fun H locs hP hS => ?_)
  replace hP : va_P D classes (xw_M ad cI cZ t18) H := by rw [e_t18]; exact hP
  clear e_t18
  refine lv_aload_n hx hb d_Mod_again_105 rfl (lv_at hl 0 rfl) ?_
  refine lv_aload_n hx hb d_Mod_again_106 rfl (lv_at hl 1 rfl) ?_
  refine lv_bipush (v := (41 : Int32)) hx hb d_Mod_again_107 (by decide) ?_
  obtain ⟨v19, h_v19, hF⟩ := xo_ob hF
  refine xk_iald hx hb hK hP 11 xw_M_at_16 h_v19 d_Mod_again_109 ?_
  obtain ⟨t20, e_t20, hF⟩ := xo_nm_e hF
  refine xk_put (C := R_Mod) (T := F_Mod) (N := 23) (ty := .int) hx hb hts i_Mod t_Mod t_Mod_ok n_Mod hown hK hP (hDw _) hS 0 xw_M_at_0 rfl 5 (by decide) u_671 rfl (by decide +kernel) rfl rfl (Nat.le_of_ble_eq_true rfl) (xw_M_put_0_5 _) d_Mod_again_110 (fun H locs hP hS => ?_)
  replace hP : va_P D classes (xw_M ad cI cZ t20) H := by rw [e_t20]; exact hP
  clear e_t20
  have q9 := Option.some.inj hF
  subst q9
  exact hret 113 _ _ _ d_Mod_again_113 hP hS
set_option maxHeartbeats 4000000 in
set_option maxRecDepth 100000 in
theorem c_Mod_on (l : Launch) (D : va_G) (cI cZ : ClassId) (ad : Nat → Nat) (A : Nat → Prop) (adK adV : Nat → Nat) (hDw : ∀ st : XS, va_D A (xw_M ad cI cZ st)) (st : XS) (r9 : Int32) (st9 : XS) (hF : F_Mod_on  st = some (r9, st9)) : K_I l D cI cZ A adK adV (xw_M ad cI cZ) y_Mod_on b_Mod_on 1 (some .int) 1 22 [.ref (ad 0)] st r9 st9 := by
  refine xk_startI (by decide) .int rfl (Nat.le_of_ble_eq_true rfl) ?_
  intro p e s m args below meth c Q ls hx hb hml hown hts hK hE hP hS hl hret
  replace hown : s.vm.findClass R_Mod = some m.cls := hown
  replace hl : lv_has ls 1 [(0, .ref (ad 0))] := hl
  unfold F_Mod_on at hF
  refine lv_aload_n hx hb d_Mod_on_0 rfl (lv_at hl 0 rfl) ?_
  refine xk_get (C := R_Mod) (T := F_Mod) (N := 23) hx hb hts i_Mod hown hK hP 0 xw_M_at_0 rfl 15 (by decide) u_681 rfl d_Mod_on_1 ?_
  refine lv_if_ne (tgt := 14) hx hb d_Mod_on_4 (by decide) (fun c_462 => ?_) (fun c_462 => ?_)
  · replace hF := xo_if_f c_462 hF
    refine lv_aload_n hx hb d_Mod_on_14 rfl (lv_at hl 0 rfl) ?_
    refine lv_aload_n hx hb d_Mod_on_15 rfl (lv_at hl 0 rfl) ?_
    refine xk_get (C := R_Mod) (T := F_Mod) (N := 23) hx hb hts i_Mod hown hK hP 0 xw_M_at_0 rfl 16 (by decide) u_682 rfl d_Mod_on_16 ?_
    obtain ⟨t3, h_t3, hF⟩ := xo_ob hF
    refine xk_goV (xk_runV (As := [.ref (ad 16)]) (rest := []) hx hb hml hown hts hK hE (fun _ h => h) hP hS ok_Mod_again in_Mod_again u_778 (c_Mod_again_v1 l D cI cZ ad A adK adV hDw st t3 h_t3) (va_recv hK hP (ci := 4) (q0 := 0) rfl xw_M_at_0) (by decide) rfl hl.1 rfl (Nat.le_of_ble_eq_true rfl) d_Mod_on_19 ⟨Nat.le_refl _, Nat.le_refl _⟩) (fun _ h => h) hS (fun H locs hP hS => ?_)
    refine lv_aload_n hx hb d_Mod_on_22 rfl (lv_at hl 0 rfl) ?_
    refine xk_get (C := R_Mod) (T := F_Mod) (N := 23) hx hb hts i_Mod hown hK hP 0 xw_M_at_0 rfl 0 (by decide) u_666 rfl d_Mod_on_23 ?_
    obtain ⟨q8, q9⟩ := xo_s2 hF
    subst q8
    subst q9
    exact hret 26 _ _ _ d_Mod_on_26 rfl hP hS
  · replace hF := xo_if_t c_462 hF
    refine lv_aload_n hx hb d_Mod_on_7 rfl (lv_at hl 0 rfl) ?_
    refine lv_bipush (v := (-3 : Int32)) hx hb d_Mod_on_8 (by decide) ?_
    obtain ⟨v1, t2, h_v1, hF⟩ := xo_ob2 hF
    refine xk_goI (xk_runV (As := [.int (-3 : Int32)]) (rest := []) hx hb hml hown hts hK hE (fun _ h => h) hP hS ok_Mod_no in_Mod_no u_741 (c_Mod_no l D cI cZ ad A adK adV hDw (-3 : Int32) st v1 t2 h_v1) (va_recv hK hP (ci := 4) (q0 := 0) rfl xw_M_at_0) (by decide) rfl hl.1 rfl (Nat.le_of_ble_eq_true rfl) d_Mod_on_10 ⟨Nat.le_refl _, Nat.le_refl _⟩) (fun _ h => h) hS (fun H locs hP hS => ?_)
    obtain ⟨q8, q9⟩ := xo_s2 hF
    subst q8
    subst q9
    exact hret 13 _ _ _ d_Mod_on_13 rfl hP hS
set_option maxHeartbeats 4000000 in
set_option maxRecDepth 100000 in
theorem c_Mod_count (l : Launch) (D : va_G) (cI cZ : ClassId) (ad : Nat → Nat) (A : Nat → Prop) (adK adV : Nat → Nat) (hDw : ∀ st : XS, va_D A (xw_M ad cI cZ st)) (x1 : Int32) (st : XS) (r9 : Int32) (hF : F_Mod_count x1 st = some r9) : K_I l D cI cZ A adK adV (xw_M ad cI cZ) y_Mod_count b_Mod_count 2 (some .int) 1 22 [.ref (ad 0), .int x1] st r9 st := by
  refine xk_startI (by decide) .int rfl (Nat.le_of_ble_eq_true rfl) ?_
  intro p e s m args below meth c Q ls hx hb hml hown hts hK hE hP hS hl hret
  replace hown : s.vm.findClass R_Mod = some m.cls := hown
  replace hl : lv_has ls 2 [(0, .ref (ad 0)), (1, .int x1)] := hl
  unfold F_Mod_count at hF
  refine lv_iload_n hx hb d_Mod_count_0 rfl (lv_at hl 1 rfl) ?_
  by_cases c_463 : x1 = (0 : Int32)
  · replace hF := xo_if_t c_463 hF
    refine lv_tableIn (off := 31) (tgt := 32) hx hb d_Mod_count_1 (by rw [c_463]; decide) (by rw [c_463]; decide) (by rw [c_463]; decide) (by decide) ?_
    refine lv_aload_n hx hb d_Mod_count_32 rfl (lv_at hl 0 rfl) ?_
    refine xk_get (C := R_Mod) (T := F_Mod) (N := 23) hx hb hts i_Mod hown hK hP 0 xw_M_at_0 rfl 0 (by decide) u_666 rfl d_Mod_count_33 ?_
    have q9 := Option.some.inj hF
    subst q9
    exact hret 36 _ _ _ d_Mod_count_36 rfl hP hS
  · replace hF := xo_if_f c_463 hF
    by_cases c_464 : x1 = (1 : Int32)
    · replace hF := xo_if_t c_464 hF
      refine lv_tableIn (off := 36) (tgt := 37) hx hb d_Mod_count_1 (by rw [c_464]; decide) (by rw [c_464]; decide) (by rw [c_464]; decide) (by decide) ?_
      refine lv_aload_n hx hb d_Mod_count_37 rfl (lv_at hl 0 rfl) ?_
      refine xk_get (C := R_Mod) (T := F_Mod) (N := 23) hx hb hts i_Mod hown hK hP 0 xw_M_at_0 rfl 5 (by decide) u_671 rfl d_Mod_count_38 ?_
      have q9 := Option.some.inj hF
      subst q9
      exact hret 41 _ _ _ d_Mod_count_41 rfl hP hS
    · replace hF := xo_if_f c_464 hF
      by_cases c_465 : x1 = (2 : Int32)
      · replace hF := xo_if_t c_465 hF
        refine lv_tableIn (off := 41) (tgt := 42) hx hb d_Mod_count_1 (by rw [c_465]; decide) (by rw [c_465]; decide) (by rw [c_465]; decide) (by decide) ?_
        refine lv_aload_n hx hb d_Mod_count_42 rfl (lv_at hl 0 rfl) ?_
        refine xk_get (C := R_Mod) (T := F_Mod) (N := 23) hx hb hts i_Mod hown hK hP 0 xw_M_at_0 rfl 12 (by decide) u_678 rfl d_Mod_count_43 ?_
        have q9 := Option.some.inj hF
        subst q9
        exact hret 46 _ _ _ d_Mod_count_46 rfl hP hS
      · replace hF := xo_if_f c_465 hF
        by_cases c_466 : x1 = (3 : Int32)
        · replace hF := xo_if_t c_466 hF
          refine lv_tableIn (off := 46) (tgt := 47) hx hb d_Mod_count_1 (by rw [c_466]; decide) (by rw [c_466]; decide) (by rw [c_466]; decide) (by decide) ?_
          refine lv_aload_n hx hb d_Mod_count_47 rfl (lv_at hl 0 rfl) ?_
          refine xk_get (C := R_Mod) (T := F_Mod) (N := 23) hx hb hts i_Mod hown hK hP 0 xw_M_at_0 rfl 8 (by decide) u_674 rfl d_Mod_count_48 ?_
          have q9 := Option.some.inj hF
          subst q9
          exact hret 51 _ _ _ d_Mod_count_51 rfl hP hS
        · replace hF := xo_if_f c_466 hF
          refine lv_tableOut (tgt := 52) hx hb d_Mod_count_1 (xk_out_0_3 c_463 c_464 c_465 c_466) (by decide) ?_
          refine lv_iload_n hx hb d_Mod_count_52 rfl (lv_at hl 1 rfl) ?_
          refine lv_bipush (v := (11 : Int32)) hx hb d_Mod_count_53 (by decide) ?_
          refine lv_bipush (v := (16 : Int32)) hx hb d_Mod_count_55 (by decide) ?_
          obtain ⟨v1, h_v1, hF⟩ := xo_ob hF
          refine xk_goI (xk_runS (As := [.int x1, .int (11 : Int32), .int (16 : Int32)]) (rest := []) hx hb hml hown hts hK hE (fun _ h => h) hP hS ok_Mod_within st_Mod_within u_765 (c_Mod_within l D cI cZ ad A adK adV hDw x1 (11 : Int32) (16 : Int32) st v1 h_v1) (by decide) rfl hl.1 rfl (Nat.le_of_ble_eq_true rfl) d_Mod_count_57 ⟨Nat.le_refl _, Nat.le_refl _⟩) (fun _ h => h) hS (fun H locs hP hS => ?_)
          refine lv_if_eq (tgt := 75) hx hb d_Mod_count_60 (by decide) (fun c_467 => ?_) (fun c_467 => ?_)
          · replace hF := xo_if_t c_467 hF
            refine lv_bipush (v := (-9 : Int32)) hx hb d_Mod_count_75 (by decide) ?_
            have q9 := Option.some.inj hF
            subst q9
            exact hret 77 _ _ _ d_Mod_count_77 rfl hP hS
          · replace hF := xo_if_f c_467 hF
            refine lv_aload_n hx hb d_Mod_count_63 rfl (lv_at hl 0 rfl) ?_
            refine xk_get (C := R_Mod) (T := F_Mod) (N := 23) hx hb hts i_Mod hown hK hP 0 xw_M_at_0 rfl 14 (by decide) u_680 rfl d_Mod_count_64 ?_
            refine lv_iload_n hx hb d_Mod_count_67 rfl (lv_at hl 1 rfl) ?_
            refine lv_bipush (v := (10 : Int32)) hx hb d_Mod_count_68 (by decide) ?_
            refine lv_isub hx hb d_Mod_count_70 ?_
            obtain ⟨v2, h_v2, hF⟩ := xo_ob hF
            refine xk_iald hx hb hK hP 10 xw_M_at_14 h_v2 d_Mod_count_71 ?_
            refine lv_goto (tgt := 77) hx hb d_Mod_count_72 (by decide) ?_
            have q9 := Option.some.inj hF
            subst q9
            exact hret 77 _ _ _ d_Mod_count_77 rfl hP hS
