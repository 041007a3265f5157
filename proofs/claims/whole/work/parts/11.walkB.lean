set_option maxHeartbeats 4000000 in
set_option maxRecDepth 100000 in
theorem c_Pla_height (l : Launch) (D : va_G) (cI cZ : ClassId) (ad : Nat → Nat) (A : Nat → Prop) (adK adV : Nat → Nat) (hDw : ∀ st : XS, va_D A (xw_C ad cI cZ st)) (x1 : Int32) (x2 : Int32) (x3 : Int32) (x4 : Int32) (st : XS) (r9 : Int32) (hF : F_Pla_height x1 x2 x3 x4 st = some r9) : K_I l D cI cZ A adK adV (xw_C ad cI cZ) y_Pla_height b_Pla_height 5 (some .int) 0 0 [.ref (ad 22), .int x1, .int x2, .int x3, .int x4] st r9 st := by
  refine xk_startI (by decide) .int rfl (Nat.le_of_ble_eq_true rfl) ?_
  intro p e s m args below meth c Q ls hx hb hml hown hts hK hE hP hS hl hret
  replace hown : s.vm.findClass R_Pla = some m.cls := hown
  replace hl : lv_has ls 5 [(0, .ref (ad 22)), (1, .int x1), (2, .int x2), (3, .int x3), (4, .int x4)] := hl
  unfold F_Pla_height at hF
  refine lv_aload_n hx hb d_Pla_height_0 rfl (lv_at hl 0 rfl) ?_
  refine xk_get (C := R_Pla) (T := F_Pla) (N := 9) hx hb hts i_Pla hown hK hP 22 xw_C_at_22 rfl 0 (by decide) u_125 rfl d_Pla_height_1 ?_
  refine xk_get (C := R_Tow) (T := F_Tow) (N := 8) hx hb hts i_Tow hown hK hP 1 xw_C_at_1 rfl 1 (by decide) u_82 rfl d_Pla_height_4 ?_
  refine lv_iload hx hb d_Pla_height_7 (lv_at hl 4 rfl) ?_
  obtain ⟨v1, h_v1, hF⟩ := xo_ob hF
  refine xk_iald hx hb hK hP 3 xw_C_at_3 h_v1 d_Pla_height_9 ?_
  refine lv_iload_n hx hb d_Pla_height_10 rfl (lv_at hl 1 rfl) ?_
  refine lv_imul hx hb d_Pla_height_11 ?_
  refine lv_aload_n hx hb d_Pla_height_12 rfl (lv_at hl 0 rfl) ?_
  refine xk_get (C := R_Pla) (T := F_Pla) (N := 9) hx hb hts i_Pla hown hK hP 22 xw_C_at_22 rfl 0 (by decide) u_125 rfl d_Pla_height_13 ?_
  refine xk_get (C := R_Tow) (T := F_Tow) (N := 8) hx hb hts i_Tow hown hK hP 1 xw_C_at_1 rfl 2 (by decide) u_85 rfl d_Pla_height_16 ?_
  refine lv_iload hx hb d_Pla_height_19 (lv_at hl 4 rfl) ?_
  obtain ⟨v2, h_v2, hF⟩ := xo_ob hF
  refine xk_iald hx hb hK hP 4 xw_C_at_4 h_v2 d_Pla_height_21 ?_
  refine lv_iload_n hx hb d_Pla_height_22 rfl (lv_at hl 2 rfl) ?_
  refine lv_imul hx hb d_Pla_height_23 ?_
  refine lv_iadd hx hb d_Pla_height_24 ?_
  refine lv_aload_n hx hb d_Pla_height_25 rfl (lv_at hl 0 rfl) ?_
  refine xk_get (C := R_Pla) (T := F_Pla) (N := 9) hx hb hts i_Pla hown hK hP 22 xw_C_at_22 rfl 0 (by decide) u_125 rfl d_Pla_height_26 ?_
  refine xk_get (C := R_Tow) (T := F_Tow) (N := 8) hx hb hts i_Tow hown hK hP 1 xw_C_at_1 rfl 3 (by decide) u_88 rfl d_Pla_height_29 ?_
  refine lv_iload hx hb d_Pla_height_32 (lv_at hl 4 rfl) ?_
  obtain ⟨v3, h_v3, hF⟩ := xo_ob hF
  refine xk_iald hx hb hK hP 5 xw_C_at_5 h_v3 d_Pla_height_34 ?_
  refine lv_iload_n hx hb d_Pla_height_35 rfl (lv_at hl 3 rfl) ?_
  refine lv_imul hx hb d_Pla_height_36 ?_
  refine lv_isub hx hb d_Pla_height_37 ?_
  have q9 := Option.some.inj hF
  subst q9
  exact hret 38 _ _ _ d_Pla_height_38 rfl hP hS
set_option maxHeartbeats 4000000 in
set_option maxRecDepth 100000 in
theorem c_Pla_streetsThrough (l : Launch) (D : va_G) (cI cZ : ClassId) (ad : Nat → Nat) (A : Nat → Prop) (adK adV : Nat → Nat) (hDw : ∀ st : XS, va_D A (xw_C ad cI cZ st)) (x1 : Int32) (x2 : Int32) (x3 : Int32) (st : XS) (r9 : Int32) (hF : F_Pla_streetsThrough x1 x2 x3 st = some r9) : K_I l D cI cZ A adK adV (xw_C ad cI cZ) y_Pla_streetsThrough b_Pla_streetsThrough 6 (some .int) 1 24 [.ref (ad 22), .int x1, .int x2, .int x3] st r9 st := by
  refine xk_startI (by decide) .int rfl (Nat.le_of_ble_eq_true rfl) ?_
  intro p e s m args below meth c Q ls hx hb hml hown hts hK hE hP hS hl hret
  replace hown : s.vm.findClass R_Pla = some m.cls := hown
  replace hl : lv_has ls 6 [(0, .ref (ad 22)), (1, .int x1), (2, .int x2), (3, .int x3)] := hl
  unfold F_Pla_streetsThrough at hF
  refine lv_iconst (v := (0 : Int32)) hx hb d_Pla_streetsThrough_0 (by decide) ?_
  refine lv_istore (lv' := [(4, .int (0 : Int32)), (0, .ref (ad 22)), (1, .int x1), (2, .int x2), (3, .int x3)]) hx hb d_Pla_streetsThrough_1 hl (by decide) rfl (fun ls hl => ?_)
  refine lv_iconst (v := (0 : Int32)) hx hb d_Pla_streetsThrough_3 (by decide) ?_
  refine lv_istore (lv' := [(5, .int (0 : Int32)), (4, .int (0 : Int32)), (0, .ref (ad 22)), (1, .int x1), (2, .int x2), (3, .int x3)]) hx hb d_Pla_streetsThrough_4 hl (by decide) rfl (fun ls hl => ?_)
  have lp6 : ∀ (n : Nat) (w6_4 : Int32) (w6_5 : Int32) (y : Int32), xo_lp (fun q : (Int32 × Int32) => F_Pla_streetsThrough_b6 x1 x2 x3 st q.1 q.2) n (w6_4, w6_5) = some y → (∀ (e4 : Int32), e4 = y → ∀ (H : Heap) (locs : List Loc) (ls : Array Slot), va_P D classes (xw_C ad cI cZ st) H → va_S A s.heap H locs → lv_has ls 6 [(4, .int e4)] → W p l e (xk_rm 1 24) s m args below meth c H locs 0 0 Q (F0 m 45 ls [])) → ∀ (H : Heap) (locs : List Loc) (ls : Array Slot), va_P D classes (xw_C ad cI cZ st) H → va_S A s.heap H locs → lv_has ls 6 [(0, .ref (ad 22)), (1, .int x1), (2, .int x2), (3, .int x3), (4, .int w6_4), (5, .int w6_5)] → W p l e (xk_rm 1 24) s m args below meth c H locs 0 0 Q (F0 m 6 ls []) := by
    intro n
    induction n with
    | zero =>
      intro w6_4 w6_5 y hL
      exact nomatch (show (none : Option _) = some y from hL)
    | succ n ih =>
      intro w6_4 w6_5 y hL kx0 H locs ls hP hS hl
      obtain ⟨z9, hB, hL⟩ := xo_lp_s hL
      replace hB : F_Pla_streetsThrough_b6 x1 x2 x3 st w6_4 w6_5 = some z9 := hB
      unfold F_Pla_streetsThrough_b6 at hB
      refine lv_iload hx hb d_Pla_streetsThrough_6 (lv_at hl 5 rfl) ?_
      refine lv_aload_n hx hb d_Pla_streetsThrough_8 rfl (lv_at hl 0 rfl) ?_
      refine xk_get (C := R_Pla) (T := F_Pla) (N := 9) hx hb hts i_Pla hown hK hP 22 xw_C_at_22 rfl 0 (by decide) u_125 rfl d_Pla_streetsThrough_9 ?_
      refine xk_get (C := R_Tow) (T := F_Tow) (N := 8) hx hb hts i_Tow hown hK hP 1 xw_C_at_1 rfl 4 (by decide) u_90 rfl d_Pla_streetsThrough_12 ?_
      refine lv_icmp_ge (tgt := 45) hx hb d_Pla_streetsThrough_15 (by decide) (fun c_3 => ?_) (fun c_3 => ?_)
      · replace hB := xo_if_t c_3 hB
        have q9 := Option.some.inj hB
        subst q9
        replace hL := Option.some.inj (xo_elR hL)
        subst hL
        exact kx0 _ rfl _ _ _ hP hS (lv_sub hl [4] rfl)
      · replace hB := xo_if_f c_3 hB
        refine lv_aload_n hx hb d_Pla_streetsThrough_18 rfl (lv_at hl 0 rfl) ?_
        refine lv_iload_n hx hb d_Pla_streetsThrough_19 rfl (lv_at hl 1 rfl) ?_
        refine lv_iload_n hx hb d_Pla_streetsThrough_20 rfl (lv_at hl 2 rfl) ?_
        refine lv_iload_n hx hb d_Pla_streetsThrough_21 rfl (lv_at hl 3 rfl) ?_
        refine lv_iload hx hb d_Pla_streetsThrough_22 (lv_at hl 5 rfl) ?_
        obtain ⟨v2, h_v2, hB⟩ := xo_ob hB
        refine xk_goI (xk_runV (As := [.int x1, .int x2, .int x3, .int w6_5]) (rest := []) hx hb hml hown hts hK hE (fun _ h => h) hP hS ok_Pla_height in_Pla_height u_210 (c_Pla_height l D cI cZ ad A adK adV hDw x1 x2 x3 w6_5 st v2 h_v2) (va_recv hK hP (ci := 1) (q0 := 22) rfl xw_C_at_22) (by decide) rfl hl.1 rfl (Nat.le_of_ble_eq_true rfl) d_Pla_streetsThrough_24 ⟨Nat.le_refl _, Nat.le_refl _⟩) (fun _ h => h) hS (fun H locs hP hS => ?_)
        refine lv_if_ne (tgt := 39) hx hb d_Pla_streetsThrough_27 (by decide) (fun c_4 => ?_) (fun c_4 => ?_)
        · replace hB := xo_if_f c_4 hB
          obtain ⟨v5, e_v5, hB⟩ := xo_nm_e hB
          refine lv_iinc (v := v5) (lv' := [(5, .int v5), (0, .ref (ad 22)), (1, .int x1), (2, .int x2), (3, .int x3), (4, .int w6_4)]) hx hb d_Pla_streetsThrough_39 hl (k := 5) rfl (by rw [e_v5]; rfl) (by decide) rfl (fun ls hl => ?_)
          clear e_v5
          refine lv_goto (tgt := 6) hx hb d_Pla_streetsThrough_42 (by decide) ?_
          have q9 := Option.some.inj hB
          subst q9
          exact ih _ _ _ (xo_elL hL) kx0 _ _ _ hP hS (lv_sub hl [1, 2, 3, 4, 5, 0] rfl)
        · replace hB := xo_if_t c_4 hB
          refine lv_iload hx hb d_Pla_streetsThrough_30 (lv_at hl 4 rfl) ?_
          refine lv_iconst (v := (1 : Int32)) hx hb d_Pla_streetsThrough_32 (by decide) ?_
          refine lv_iload hx hb d_Pla_streetsThrough_33 (lv_at hl 5 rfl) ?_
          refine lv_ishl hx hb d_Pla_streetsThrough_35 ?_
          refine lv_ior hx hb d_Pla_streetsThrough_36 ?_
          refine lv_topi (fun v3 e_v3 => ?_)
          replace hB := xo_nm_u hB e_v3
          clear e_v3
          refine lv_istore (lv' := [(4, .int v3), (0, .ref (ad 22)), (1, .int x1), (2, .int x2), (3, .int x3), (5, .int w6_5)]) hx hb d_Pla_streetsThrough_37 hl (by decide) rfl (fun ls hl => ?_)
          obtain ⟨v4, e_v4, hB⟩ := xo_nm_e hB
          refine lv_iinc (v := v4) (lv' := [(5, .int v4), (4, .int v3), (0, .ref (ad 22)), (1, .int x1), (2, .int x2), (3, .int x3)]) hx hb d_Pla_streetsThrough_39 hl (k := 5) rfl (by rw [e_v4]; rfl) (by decide) rfl (fun ls hl => ?_)
          clear e_v4
          refine lv_goto (tgt := 6) hx hb d_Pla_streetsThrough_42 (by decide) ?_
          have q9 := Option.some.inj hB
          subst q9
          exact ih _ _ _ (xo_elL hL) kx0 _ _ _ hP hS (lv_sub hl [2, 3, 4, 5, 1, 0] rfl)
  obtain ⟨y6, hL6, hF⟩ := xo_ob hF
  refine lp6 1000000 (0 : Int32) (0 : Int32) y6 hL6 ?_ _ _ _ hP hS (lv_sub hl [2, 3, 4, 5, 1, 0] rfl)
  intro o1 ey H locs ls hP hS hl
  subst ey
  refine lv_iload hx hb d_Pla_streetsThrough_45 (lv_at hl 0 rfl) ?_
  have q9 := Option.some.inj hF
  subst q9
  exact hret 47 _ _ _ d_Pla_streetsThrough_47 rfl hP hS
set_option maxHeartbeats 4000000 in
set_option maxRecDepth 100000 in
theorem c_Pla_sidesOfPoint (l : Launch) (D : va_G) (cI cZ : ClassId) (ad : Nat → Nat) (A : Nat → Prop) (adK adV : Nat → Nat) (hDw : ∀ st : XS, va_D A (xw_C ad cI cZ st)) (x1 : Int32) (x2 : Int32) (x3 : Int32) (st : XS) (r9 : Int32) (hF : F_Pla_sidesOfPoint x1 x2 x3 st = some r9) : K_I l D cI cZ A adK adV (xw_C ad cI cZ) y_Pla_sidesOfPoint b_Pla_sidesOfPoint 6 (some .int) 1 24 [.ref (ad 22), .int x1, .int x2, .int x3] st r9 st := by
  refine xk_startI (by decide) .int rfl (Nat.le_of_ble_eq_true rfl) ?_
  intro p e s m args below meth c Q ls hx hb hml hown hts hK hE hP hS hl hret
  replace hown : s.vm.findClass R_Pla = some m.cls := hown
  replace hl : lv_has ls 6 [(0, .ref (ad 22)), (1, .int x1), (2, .int x2), (3, .int x3)] := hl
  unfold F_Pla_sidesOfPoint at hF
  refine lv_iconst (v := (0 : Int32)) hx hb d_Pla_sidesOfPoint_0 (by decide) ?_
  refine lv_istore (lv' := [(4, .int (0 : Int32)), (0, .ref (ad 22)), (1, .int x1), (2, .int x2), (3, .int x3)]) hx hb d_Pla_sidesOfPoint_1 hl (by decide) rfl (fun ls hl => ?_)
  refine lv_iconst (v := (0 : Int32)) hx hb d_Pla_sidesOfPoint_3 (by decide) ?_
  refine lv_istore (lv' := [(5, .int (0 : Int32)), (4, .int (0 : Int32)), (0, .ref (ad 22)), (1, .int x1), (2, .int x2), (3, .int x3)]) hx hb d_Pla_sidesOfPoint_4 hl (by decide) rfl (fun ls hl => ?_)
  have lp6 : ∀ (n : Nat) (w6_4 : Int32) (w6_5 : Int32) (y : Int32), xo_lp (fun q : (Int32 × Int32) => F_Pla_sidesOfPoint_b6 x1 x2 x3 st q.1 q.2) n (w6_4, w6_5) = some y → (∀ (e4 : Int32), e4 = y → ∀ (H : Heap) (locs : List Loc) (ls : Array Slot), va_P D classes (xw_C ad cI cZ st) H → va_S A s.heap H locs → lv_has ls 6 [(4, .int e4)] → W p l e (xk_rm 1 24) s m args below meth c H locs 0 0 Q (F0 m 45 ls [])) → ∀ (H : Heap) (locs : List Loc) (ls : Array Slot), va_P D classes (xw_C ad cI cZ st) H → va_S A s.heap H locs → lv_has ls 6 [(0, .ref (ad 22)), (1, .int x1), (2, .int x2), (3, .int x3), (4, .int w6_4), (5, .int w6_5)] → W p l e (xk_rm 1 24) s m args below meth c H locs 0 0 Q (F0 m 6 ls []) := by
    intro n
    induction n with
    | zero =>
      intro w6_4 w6_5 y hL
      exact nomatch (show (none : Option _) = some y from hL)
    | succ n ih =>
      intro w6_4 w6_5 y hL kx0 H locs ls hP hS hl
      obtain ⟨z9, hB, hL⟩ := xo_lp_s hL
      replace hB : F_Pla_sidesOfPoint_b6 x1 x2 x3 st w6_4 w6_5 = some z9 := hB
      unfold F_Pla_sidesOfPoint_b6 at hB
      refine lv_iload hx hb d_Pla_sidesOfPoint_6 (lv_at hl 5 rfl) ?_
      refine lv_aload_n hx hb d_Pla_sidesOfPoint_8 rfl (lv_at hl 0 rfl) ?_
      refine xk_get (C := R_Pla) (T := F_Pla) (N := 9) hx hb hts i_Pla hown hK hP 22 xw_C_at_22 rfl 0 (by decide) u_125 rfl d_Pla_sidesOfPoint_9 ?_
      refine xk_get (C := R_Tow) (T := F_Tow) (N := 8) hx hb hts i_Tow hown hK hP 1 xw_C_at_1 rfl 4 (by decide) u_90 rfl d_Pla_sidesOfPoint_12 ?_
      refine lv_icmp_ge (tgt := 45) hx hb d_Pla_sidesOfPoint_15 (by decide) (fun c_5 => ?_) (fun c_5 => ?_)
      · replace hB := xo_if_t c_5 hB
        have q9 := Option.some.inj hB
        subst q9
        replace hL := Option.some.inj (xo_elR hL)
        subst hL
        exact kx0 _ rfl _ _ _ hP hS (lv_sub hl [4] rfl)
      · replace hB := xo_if_f c_5 hB
        refine lv_aload_n hx hb d_Pla_sidesOfPoint_18 rfl (lv_at hl 0 rfl) ?_
        refine lv_iload_n hx hb d_Pla_sidesOfPoint_19 rfl (lv_at hl 1 rfl) ?_
        refine lv_iload_n hx hb d_Pla_sidesOfPoint_20 rfl (lv_at hl 2 rfl) ?_
        refine lv_iload_n hx hb d_Pla_sidesOfPoint_21 rfl (lv_at hl 3 rfl) ?_
        refine lv_iload hx hb d_Pla_sidesOfPoint_22 (lv_at hl 5 rfl) ?_
        obtain ⟨v2, h_v2, hB⟩ := xo_ob hB
        refine xk_goI (xk_runV (As := [.int x1, .int x2, .int x3, .int w6_5]) (rest := []) hx hb hml hown hts hK hE (fun _ h => h) hP hS ok_Pla_height in_Pla_height u_210 (c_Pla_height l D cI cZ ad A adK adV hDw x1 x2 x3 w6_5 st v2 h_v2) (va_recv hK hP (ci := 1) (q0 := 22) rfl xw_C_at_22) (by decide) rfl hl.1 rfl (Nat.le_of_ble_eq_true rfl) d_Pla_sidesOfPoint_24 ⟨Nat.le_refl _, Nat.le_refl _⟩) (fun _ h => h) hS (fun H locs hP hS => ?_)
        refine lv_if_le (tgt := 39) hx hb d_Pla_sidesOfPoint_27 (by decide) (fun c_6 => ?_) (fun c_6 => ?_)
        · replace hB := xo_if_t c_6 hB
          obtain ⟨v3, e_v3, hB⟩ := xo_nm_e hB
          refine lv_iinc (v := v3) (lv' := [(5, .int v3), (0, .ref (ad 22)), (1, .int x1), (2, .int x2), (3, .int x3), (4, .int w6_4)]) hx hb d_Pla_sidesOfPoint_39 hl (k := 5) rfl (by rw [e_v3]; rfl) (by decide) rfl (fun ls hl => ?_)
          clear e_v3
          refine lv_goto (tgt := 6) hx hb d_Pla_sidesOfPoint_42 (by decide) ?_
          have q9 := Option.some.inj hB
          subst q9
          exact ih _ _ _ (xo_elL hL) kx0 _ _ _ hP hS (lv_sub hl [1, 2, 3, 4, 5, 0] rfl)
        · replace hB := xo_if_f c_6 hB
          refine lv_iload hx hb d_Pla_sidesOfPoint_30 (lv_at hl 4 rfl) ?_
          refine lv_iconst (v := (1 : Int32)) hx hb d_Pla_sidesOfPoint_32 (by decide) ?_
          refine lv_iload hx hb d_Pla_sidesOfPoint_33 (lv_at hl 5 rfl) ?_
          refine lv_ishl hx hb d_Pla_sidesOfPoint_35 ?_
          refine lv_ior hx hb d_Pla_sidesOfPoint_36 ?_
          refine lv_topi (fun v4 e_v4 => ?_)
          replace hB := xo_nm_u hB e_v4
          clear e_v4
          refine lv_istore (lv' := [(4, .int v4), (0, .ref (ad 22)), (1, .int x1), (2, .int x2), (3, .int x3), (5, .int w6_5)]) hx hb d_Pla_sidesOfPoint_37 hl (by decide) rfl (fun ls hl => ?_)
          obtain ⟨v5, e_v5, hB⟩ := xo_nm_e hB
          refine lv_iinc (v := v5) (lv' := [(5, .int v5), (4, .int v4), (0, .ref (ad 22)), (1, .int x1), (2, .int x2), (3, .int x3)]) hx hb d_Pla_sidesOfPoint_39 hl (k := 5) rfl (by rw [e_v5]; rfl) (by decide) rfl (fun ls hl => ?_)
          clear e_v5
          refine lv_goto (tgt := 6) hx hb d_Pla_sidesOfPoint_42 (by decide) ?_
          have q9 := Option.some.inj hB
          subst q9
          exact ih _ _ _ (xo_elL hL) kx0 _ _ _ hP hS (lv_sub hl [2, 3, 4, 5, 1, 0] rfl)
  obtain ⟨y6, hL6, hF⟩ := xo_ob hF
  refine lp6 1000000 (0 : Int32) (0 : Int32) y6 hL6 ?_ _ _ _ hP hS (lv_sub hl [2, 3, 4, 5, 1, 0] rfl)
  intro o1 ey H locs ls hP hS hl
  subst ey
  refine lv_iload hx hb d_Pla_sidesOfPoint_45 (lv_at hl 0 rfl) ?_
  have q9 := Option.some.inj hF
  subst q9
  exact hret 47 _ _ _ d_Pla_sidesOfPoint_47 rfl hP hS
set_option maxHeartbeats 4000000 in
set_option maxRecDepth 100000 in
theorem c_Pla_measurePoints (l : Launch) (D : va_G) (cI cZ : ClassId) (ad : Nat → Nat) (A : Nat → Prop) (adK adV : Nat → Nat) (hDw : ∀ st : XS, va_D A (xw_C ad cI cZ st)) (st : XS) (st9 : XS) (hF : F_Pla_measurePoints  st = some st9) : K_V l D cI cZ A adK adV (xw_C ad cI cZ) y_Pla_measurePoints b_Pla_measurePoints 8 none 2 49 [.ref (ad 22)] st st9 := by
  refine xk_startV (by decide) rfl (Nat.le_of_ble_eq_true rfl) ?_
  intro p e s m args below meth c Q ls hx hb hml hown hts hK hE hP hS hl hret
  replace hown : s.vm.findClass R_Pla = some m.cls := hown
  replace hl : lv_has ls 8 [(0, .ref (ad 22))] := hl
  unfold F_Pla_measurePoints at hF
  refine lv_aload_n hx hb d_Pla_measurePoints_0 rfl (lv_at hl 0 rfl) ?_
  refine lv_iconst (v := (0 : Int32)) hx hb d_Pla_measurePoints_1 (by decide) ?_
  obtain ⟨t1, e_t1, hF⟩ := xo_nm_e hF
  refine xk_put (C := R_Pla) (T := F_Pla) (N := 9) (ty := .int) hx hb hts i_Pla t_Pla t_Pla_ok n_Pla hown hK hP (hDw _) hS 22 xw_C_at_22 rfl 3 (by decide) u_130 rfl (by decide +kernel) rfl rfl (Nat.le_of_ble_eq_true rfl) (xw_C_put_22_3 _) d_Pla_measurePoints_2 (fun H locs hP hS => ?_)
  replace hP : va_P D classes (xw_C ad cI cZ t1) H := by rw [e_t1]; exact hP
  clear e_t1
  refine lv_iconst (v := (0 : Int32)) hx hb d_Pla_measurePoints_5 (by decide) ?_
  refine lv_istore_n (lv' := [(1, .int (0 : Int32)), (0, .ref (ad 22))]) hx hb d_Pla_measurePoints_6 rfl hl (by decide) rfl (fun ls hl => ?_)
  have lp7 : ∀ (n : Nat) (w7_1 : Int32) (w7_s : XS) (y : XS), xo_lp (fun q : (Int32 × XS) => F_Pla_measurePoints_b7 q.1 q.2) n (w7_1, w7_s) = some y → (∀  (es : XS), es = y → ∀ (H : Heap) (locs : List Loc) (ls : Array Slot), va_P D classes (xw_C ad cI cZ es) H → va_S A s.heap H locs → lv_has ls 8 [] → W p l e (xk_rm 2 49) s m args below meth c H locs 0 0 Q (F0 m 194 ls [])) → ∀ (H : Heap) (locs : List Loc) (ls : Array Slot), va_P D classes (xw_C ad cI cZ w7_s) H → va_S A s.heap H locs → lv_has ls 8 [(0, .ref (ad 22)), (1, .int w7_1)] → W p l e (xk_rm 2 49) s m args below meth c H locs 0 0 Q (F0 m 7 ls []) := by
    intro n
    induction n with
    | zero =>
      intro w7_1 w7_s y hL
      exact nomatch (show (none : Option _) = some y from hL)
    | succ n ih =>
      intro w7_1 w7_s y hL kx0 H locs ls hP hS hl
      obtain ⟨z9, hB, hL⟩ := xo_lp_s hL
      replace hB : F_Pla_measurePoints_b7 w7_1 w7_s = some z9 := hB
      unfold F_Pla_measurePoints_b7 at hB
      refine lv_iload_n hx hb d_Pla_measurePoints_7 rfl (lv_at hl 1 rfl) ?_
      refine lv_aload_n hx hb d_Pla_measurePoints_8 rfl (lv_at hl 0 rfl) ?_
      refine xk_get (C := R_Pla) (T := F_Pla) (N := 9) hx hb hts i_Pla hown hK hP 22 xw_C_at_22 rfl 0 (by decide) u_125 rfl d_Pla_measurePoints_9 ?_
      refine xk_get (C := R_Tow) (T := F_Tow) (N := 8) hx hb hts i_Tow hown hK hP 1 xw_C_at_1 rfl 4 (by decide) u_90 rfl d_Pla_measurePoints_12 ?_
      refine lv_icmp_ge (tgt := 194) hx hb d_Pla_measurePoints_15 (by decide) (fun c_7 => ?_) (fun c_7 => ?_)
      · replace hB := xo_if_t c_7 hB
        have q9 := Option.some.inj hB
        subst q9
        replace hL := Option.some.inj (xo_elR hL)
        subst hL
        exact kx0 _ rfl _ _ _ hP hS (lv_sub hl [] rfl)
      · replace hB := xo_if_f c_7 hB
        refine lv_iload_n hx hb d_Pla_measurePoints_18 rfl (lv_at hl 1 rfl) ?_
        refine lv_iconst (v := (1 : Int32)) hx hb d_Pla_measurePoints_19 (by decide) ?_
        refine lv_iadd hx hb d_Pla_measurePoints_20 ?_
        refine lv_topi (fun v3 e_v3 => ?_)
        replace hB := xo_nm_u hB e_v3
        clear e_v3
        refine lv_istore_n (lv' := [(2, .int v3), (0, .ref (ad 22)), (1, .int w7_1)]) hx hb d_Pla_measurePoints_21 rfl hl (by decide) rfl (fun ls hl => ?_)
        have lp22 : ∀ (n : Nat) (w22_2 : Int32) (w22_s : XS) (y : XS), xo_lp (fun q : (Int32 × XS) => F_Pla_measurePoints_b22 w7_1 q.1 q.2) n (w22_2, w22_s) = some y → (∀  (es : XS), es = y → ∀ (H : Heap) (locs : List Loc) (ls : Array Slot), va_P D classes (xw_C ad cI cZ es) H → va_S A s.heap H locs → lv_has ls 8 [(0, .ref (ad 22)), (1, .int w7_1)] → W p l e (xk_rm 2 49) s m args below meth c H locs 0 0 Q (F0 m 188 ls [])) → ∀ (H : Heap) (locs : List Loc) (ls : Array Slot), va_P D classes (xw_C ad cI cZ w22_s) H → va_S A s.heap H locs → lv_has ls 8 [(0, .ref (ad 22)), (1, .int w7_1), (2, .int w22_2)] → W p l e (xk_rm 2 49) s m args below meth c H locs 0 0 Q (F0 m 22 ls []) := by
          intro n
          induction n with
          | zero =>
            intro w22_2 w22_s y hL
            exact nomatch (show (none : Option _) = some y from hL)
          | succ n ih =>
            intro w22_2 w22_s y hL kx0 H locs ls hP hS hl
            obtain ⟨z9, hB, hL⟩ := xo_lp_s hL
            replace hB : F_Pla_measurePoints_b22 w7_1 w22_2 w22_s = some z9 := hB
            unfold F_Pla_measurePoints_b22 at hB
            have mg95 : ∀ (x2 : Int32) (x3 : Int32) (x4 : Int32) (x5 : Int32) (x6 : Int32) (k0 : Int32) (xs : XS), F_Pla_measurePoints_m95 w7_1 x2 x3 x4 x5 x6 k0 xs = some z9 → ∀ (H : Heap) (locs : List Loc) (ls : Array Slot), va_P D classes (xw_C ad cI cZ xs) H → va_S A s.heap H locs → lv_has ls 8 [(0, .ref (ad 22)), (1, .int w7_1), (2, .int x2), (3, .int x3), (4, .int x4), (5, .int x5), (6, .int x6)] → W p l e (xk_rm 2 49) s m args below meth c H locs 0 0 Q (F0 m 95 ls [.int k0]) := by
              intro x2 x3 x4 x5 x6 k0 xs hB H locs ls hP hS hl
              unfold F_Pla_measurePoints_m95 at hB
              refine lv_istore (lv' := [(7, .int k0), (0, .ref (ad 22)), (1, .int w7_1), (2, .int x2), (3, .int x3), (4, .int x4), (5, .int x5), (6, .int x6)]) hx hb d_Pla_measurePoints_95 hl (by decide) rfl (fun ls hl => ?_)
              refine lv_iload hx hb d_Pla_measurePoints_97 (lv_at hl 0 rfl) ?_
              refine lv_if_eq (tgt := 182) hx hb d_Pla_measurePoints_99 (by decide) (fun c_8 => ?_) (fun c_8 => ?_)
              · replace hB := xo_if_t c_8 hB
                obtain ⟨v5, e_v5, hB⟩ := xo_nm_e hB
                refine lv_iinc (v := v5) (lv' := [(2, .int v5), (7, .int k0), (0, .ref (ad 22)), (1, .int w7_1), (3, .int x3), (4, .int x4), (5, .int x5), (6, .int x6)]) hx hb d_Pla_measurePoints_182 hl (k := 3) rfl (by rw [e_v5]; rfl) (by decide) rfl (fun ls hl => ?_)
                clear e_v5
                refine lv_goto (tgt := 22) hx hb d_Pla_measurePoints_185 (by decide) ?_
                have q9 := Option.some.inj hB
                subst q9
                exact ih _ _ _ (xo_elL hL) kx0 _ _ _ hP hS (lv_sub hl [2, 3, 0] rfl)
              · replace hB := xo_if_f c_8 hB
                refine lv_aload_n hx hb d_Pla_measurePoints_102 rfl (lv_at hl 1 rfl) ?_
                refine xk_get (C := R_Pla) (T := F_Pla) (N := 9) hx hb hts i_Pla hown hK hP 22 xw_C_at_22 rfl 3 (by decide) u_130 rfl d_Pla_measurePoints_103 ?_
                refine lv_bipush (v := (15 : Int32)) hx hb d_Pla_measurePoints_106 (by decide) ?_
                refine lv_icmp_ge (tgt := 182) hx hb d_Pla_measurePoints_108 (by decide) (fun c_9 => ?_) (fun c_9 => ?_)
                · replace hB := xo_if_t c_9 hB
                  obtain ⟨v6, e_v6, hB⟩ := xo_nm_e hB
                  refine lv_iinc (v := v6) (lv' := [(2, .int v6), (7, .int k0), (0, .ref (ad 22)), (1, .int w7_1), (3, .int x3), (4, .int x4), (5, .int x5), (6, .int x6)]) hx hb d_Pla_measurePoints_182 hl (k := 3) rfl (by rw [e_v6]; rfl) (by decide) rfl (fun ls hl => ?_)
                  clear e_v6
                  refine lv_goto (tgt := 22) hx hb d_Pla_measurePoints_185 (by decide) ?_
                  have q9 := Option.some.inj hB
                  subst q9
                  exact ih _ _ _ (xo_elL hL) kx0 _ _ _ hP hS (lv_sub hl [2, 3, 0] rfl)
                · replace hB := xo_if_f c_9 hB
                  refine lv_aload_n hx hb d_Pla_measurePoints_111 rfl (lv_at hl 1 rfl) ?_
                  refine xk_get (C := R_Pla) (T := F_Pla) (N := 9) hx hb hts i_Pla hown hK hP 22 xw_C_at_22 rfl 4 (by decide) u_132 rfl d_Pla_measurePoints_112 ?_
                  refine lv_aload_n hx hb d_Pla_measurePoints_115 rfl (lv_at hl 1 rfl) ?_
                  refine xk_get (C := R_Pla) (T := F_Pla) (N := 9) hx hb hts i_Pla hown hK hP 22 xw_C_at_22 rfl 3 (by decide) u_130 rfl d_Pla_measurePoints_116 ?_
                  refine lv_iload_n hx hb d_Pla_measurePoints_119 rfl (lv_at hl 4 rfl) ?_
                  obtain ⟨_, h_t7, hB⟩ := xo_ob hB
                  obtain ⟨t7, e_t7, hB⟩ := xo_nm_e hB
                  refine xk_iast hx hb hK hP (hDw _) hS 23 xw_C_at_23 h_t7 (xw_C_set_23 _) d_Pla_measurePoints_120 (fun H locs hP hS => ?_)
                  replace hP : va_P D classes (xw_C ad cI cZ t7) H := by rw [e_t7]; exact hP
                  clear e_t7
                  refine lv_aload_n hx hb d_Pla_measurePoints_121 rfl (lv_at hl 1 rfl) ?_
                  refine xk_get (C := R_Pla) (T := F_Pla) (N := 9) hx hb hts i_Pla hown hK hP 22 xw_C_at_22 rfl 5 (by decide) u_133 rfl d_Pla_measurePoints_122 ?_
                  refine lv_aload_n hx hb d_Pla_measurePoints_125 rfl (lv_at hl 1 rfl) ?_
                  refine xk_get (C := R_Pla) (T := F_Pla) (N := 9) hx hb hts i_Pla hown hK hP 22 xw_C_at_22 rfl 3 (by decide) u_130 rfl d_Pla_measurePoints_126 ?_
                  refine lv_iload hx hb d_Pla_measurePoints_129 (lv_at hl 5 rfl) ?_
                  obtain ⟨_, h_t8, hB⟩ := xo_ob hB
                  obtain ⟨t8, e_t8, hB⟩ := xo_nm_e hB
                  refine xk_iast hx hb hK hP (hDw _) hS 24 xw_C_at_24 h_t8 (xw_C_set_24 _) d_Pla_measurePoints_131 (fun H locs hP hS => ?_)
                  replace hP : va_P D classes (xw_C ad cI cZ t8) H := by rw [e_t8]; exact hP
                  clear e_t8
                  refine lv_aload_n hx hb d_Pla_measurePoints_132 rfl (lv_at hl 1 rfl) ?_
                  refine xk_get (C := R_Pla) (T := F_Pla) (N := 9) hx hb hts i_Pla hown hK hP 22 xw_C_at_22 rfl 6 (by decide) u_134 rfl d_Pla_measurePoints_133 ?_
                  refine lv_aload_n hx hb d_Pla_measurePoints_136 rfl (lv_at hl 1 rfl) ?_
                  refine xk_get (C := R_Pla) (T := F_Pla) (N := 9) hx hb hts i_Pla hown hK hP 22 xw_C_at_22 rfl 3 (by decide) u_130 rfl d_Pla_measurePoints_137 ?_
                  refine lv_iload hx hb d_Pla_measurePoints_140 (lv_at hl 6 rfl) ?_
                  obtain ⟨_, h_t9, hB⟩ := xo_ob hB
                  obtain ⟨t9, e_t9, hB⟩ := xo_nm_e hB
                  refine xk_iast hx hb hK hP (hDw _) hS 25 xw_C_at_25 h_t9 (xw_C_set_25 _) d_Pla_measurePoints_142 (fun H locs hP hS => ?_)
                  replace hP : va_P D classes (xw_C ad cI cZ t9) H := by rw [e_t9]; exact hP
                  clear e_t9
                  refine lv_aload_n hx hb d_Pla_measurePoints_143 rfl (lv_at hl 1 rfl) ?_
                  refine xk_get (C := R_Pla) (T := F_Pla) (N := 9) hx hb hts i_Pla hown hK hP 22 xw_C_at_22 rfl 7 (by decide) u_135 rfl d_Pla_measurePoints_144 ?_
                  refine lv_aload_n hx hb d_Pla_measurePoints_147 rfl (lv_at hl 1 rfl) ?_
                  refine xk_get (C := R_Pla) (T := F_Pla) (N := 9) hx hb hts i_Pla hown hK hP 22 xw_C_at_22 rfl 3 (by decide) u_130 rfl d_Pla_measurePoints_148 ?_
                  refine lv_iload hx hb d_Pla_measurePoints_151 (lv_at hl 7 rfl) ?_
                  obtain ⟨_, h_t10, hB⟩ := xo_ob hB
                  obtain ⟨t10, e_t10, hB⟩ := xo_nm_e hB
                  refine xk_iast hx hb hK hP (hDw _) hS 26 xw_C_at_26 h_t10 (xw_C_set_26 _) d_Pla_measurePoints_153 (fun H locs hP hS => ?_)
                  replace hP : va_P D classes (xw_C ad cI cZ t10) H := by rw [e_t10]; exact hP
                  clear e_t10
                  refine lv_aload_n hx hb d_Pla_measurePoints_154 rfl (lv_at hl 1 rfl) ?_
                  refine xk_get (C := R_Pla) (T := F_Pla) (N := 9) hx hb hts i_Pla hown hK hP 22 xw_C_at_22 rfl 8 (by decide) u_136 rfl d_Pla_measurePoints_155 ?_
                  refine lv_aload_n hx hb d_Pla_measurePoints_158 rfl (lv_at hl 1 rfl) ?_
                  refine xk_get (C := R_Pla) (T := F_Pla) (N := 9) hx hb hts i_Pla hown hK hP 22 xw_C_at_22 rfl 3 (by decide) u_130 rfl d_Pla_measurePoints_159 ?_
                  refine lv_aload_n hx hb d_Pla_measurePoints_162 rfl (lv_at hl 1 rfl) ?_
                  refine lv_iload_n hx hb d_Pla_measurePoints_163 rfl (lv_at hl 4 rfl) ?_
                  refine lv_iload hx hb d_Pla_measurePoints_164 (lv_at hl 5 rfl) ?_
                  refine lv_iload hx hb d_Pla_measurePoints_166 (lv_at hl 6 rfl) ?_
                  obtain ⟨v11, h_v11, hB⟩ := xo_ob hB
                  refine xk_goI (xk_runV (As := [.int x3, .int x4, .int x5]) (rest := [.int (t10.1 22 3), .ref (ad 27)]) hx hb hml hown hts hK hE (fun _ h => h) hP hS ok_Pla_sidesOfPoint in_Pla_sidesOfPoint u_214 (c_Pla_sidesOfPoint l D cI cZ ad A adK adV hDw x3 x4 x5 t10 v11 h_v11) (va_recv hK hP (ci := 1) (q0 := 22) rfl xw_C_at_22) (by decide) rfl hl.1 rfl (Nat.le_of_ble_eq_true rfl) d_Pla_measurePoints_168 ⟨Nat.le_refl _, Nat.le_refl _⟩) (fun _ h => h) hS (fun H locs hP hS => ?_)
                  obtain ⟨_, h_t12, hB⟩ := xo_ob hB
                  obtain ⟨t12, e_t12, hB⟩ := xo_nm_e hB
                  refine xk_iast hx hb hK hP (hDw _) hS 27 xw_C_at_27 h_t12 (xw_C_set_27 _) d_Pla_measurePoints_171 (fun H locs hP hS => ?_)
                  replace hP : va_P D classes (xw_C ad cI cZ t12) H := by rw [e_t12]; exact hP
                  clear e_t12
                  refine lv_aload_n hx hb d_Pla_measurePoints_172 rfl (lv_at hl 1 rfl) ?_
                  refine lv_dup hx hb d_Pla_measurePoints_173 rfl ?_
                  refine xk_get (C := R_Pla) (T := F_Pla) (N := 9) hx hb hts i_Pla hown hK hP 22 xw_C_at_22 rfl 3 (by decide) u_130 rfl d_Pla_measurePoints_174 ?_
                  refine lv_iconst (v := (1 : Int32)) hx hb d_Pla_measurePoints_177 (by decide) ?_
                  refine lv_iadd hx hb d_Pla_measurePoints_178 ?_
                  obtain ⟨t13, e_t13, hB⟩ := xo_nm_e hB
                  refine xk_put (C := R_Pla) (T := F_Pla) (N := 9) (ty := .int) hx hb hts i_Pla t_Pla t_Pla_ok n_Pla hown hK hP (hDw _) hS 22 xw_C_at_22 rfl 3 (by decide) u_130 rfl (by decide +kernel) rfl rfl (Nat.le_of_ble_eq_true rfl) (xw_C_put_22_3 _) d_Pla_measurePoints_179 (fun H locs hP hS => ?_)
                  replace hP : va_P D classes (xw_C ad cI cZ t13) H := by rw [e_t13]; exact hP
                  clear e_t13
                  obtain ⟨v14, e_v14, hB⟩ := xo_nm_e hB
                  refine lv_iinc (v := v14) (lv' := [(2, .int v14), (7, .int k0), (0, .ref (ad 22)), (1, .int w7_1), (3, .int x3), (4, .int x4), (5, .int x5), (6, .int x6)]) hx hb d_Pla_measurePoints_182 hl (k := 3) rfl (by rw [e_v14]; rfl) (by decide) rfl (fun ls hl => ?_)
                  clear e_v14
                  refine lv_goto (tgt := 22) hx hb d_Pla_measurePoints_185 (by decide) ?_
                  have q9 := Option.some.inj hB
                  subst q9
                  exact ih _ _ _ (xo_elL hL) kx0 _ _ _ hP hS (lv_sub hl [2, 3, 0] rfl)
            refine lv_iload_n hx hb d_Pla_measurePoints_22 rfl (lv_at hl 2 rfl) ?_
            refine lv_aload_n hx hb d_Pla_measurePoints_23 rfl (lv_at hl 0 rfl) ?_
            refine xk_get (C := R_Pla) (T := F_Pla) (N := 9) hx hb hts i_Pla hown hK hP 22 xw_C_at_22 rfl 0 (by decide) u_125 rfl d_Pla_measurePoints_24 ?_
            refine xk_get (C := R_Tow) (T := F_Tow) (N := 8) hx hb hts i_Tow hown hK hP 1 xw_C_at_1 rfl 4 (by decide) u_90 rfl d_Pla_measurePoints_27 ?_
            refine lv_icmp_ge (tgt := 188) hx hb d_Pla_measurePoints_30 (by decide) (fun c_10 => ?_) (fun c_10 => ?_)
            · replace hB := xo_if_t c_10 hB
              have q9 := Option.some.inj hB
              subst q9
              replace hL := Option.some.inj (xo_elR hL)
              subst hL
              exact kx0 _ rfl _ _ _ hP hS (lv_sub hl [0, 1] rfl)
            · replace hB := xo_if_f c_10 hB
              refine lv_aload_n hx hb d_Pla_measurePoints_33 rfl (lv_at hl 0 rfl) ?_
              refine xk_get (C := R_Pla) (T := F_Pla) (N := 9) hx hb hts i_Pla hown hK hP 22 xw_C_at_22 rfl 0 (by decide) u_125 rfl d_Pla_measurePoints_34 ?_
              refine lv_iload_n hx hb d_Pla_measurePoints_37 rfl (lv_at hl 1 rfl) ?_
              refine lv_iload_n hx hb d_Pla_measurePoints_38 rfl (lv_at hl 2 rfl) ?_
              obtain ⟨v15, h_v15, hB⟩ := xo_ob hB
              refine xk_goI (xk_runV (As := [.int w7_1, .int w22_2]) (rest := []) hx hb hml hown hts hK hE (fun _ h => h) hP hS ok_Tow_crossingX in_Tow_crossingX u_187 (c_Tow_crossingX l D cI cZ ad A adK adV hDw w7_1 w22_2 w22_s v15 h_v15) (va_recv hK hP (ci := 2) (q0 := 1) rfl xw_C_at_1) (by decide) rfl hl.1 rfl (Nat.le_of_ble_eq_true rfl) d_Pla_measurePoints_39 ⟨Nat.le_refl _, Nat.le_refl _⟩) (fun _ h => h) hS (fun H locs hP hS => ?_)
              refine lv_istore_n (lv' := [(3, .int v15), (0, .ref (ad 22)), (1, .int w7_1), (2, .int w22_2)]) hx hb d_Pla_measurePoints_42 rfl hl (by decide) rfl (fun ls hl => ?_)
              refine lv_aload_n hx hb d_Pla_measurePoints_43 rfl (lv_at hl 1 rfl) ?_
              refine xk_get (C := R_Pla) (T := F_Pla) (N := 9) hx hb hts i_Pla hown hK hP 22 xw_C_at_22 rfl 0 (by decide) u_125 rfl d_Pla_measurePoints_44 ?_
              refine lv_iload_n hx hb d_Pla_measurePoints_47 rfl (lv_at hl 2 rfl) ?_
              refine lv_iload_n hx hb d_Pla_measurePoints_48 rfl (lv_at hl 3 rfl) ?_
              obtain ⟨v16, h_v16, hB⟩ := xo_ob hB
              refine xk_goI (xk_runV (As := [.int w7_1, .int w22_2]) (rest := []) hx hb hml hown hts hK hE (fun _ h => h) hP hS ok_Tow_crossingY in_Tow_crossingY u_195 (c_Tow_crossingY l D cI cZ ad A adK adV hDw w7_1 w22_2 w22_s v16 h_v16) (va_recv hK hP (ci := 2) (q0 := 1) rfl xw_C_at_1) (by decide) rfl hl.1 rfl (Nat.le_of_ble_eq_true rfl) d_Pla_measurePoints_49 ⟨Nat.le_refl _, Nat.le_refl _⟩) (fun _ h => h) hS (fun H locs hP hS => ?_)
              refine lv_istore (lv' := [(4, .int v16), (3, .int v15), (0, .ref (ad 22)), (1, .int w7_1), (2, .int w22_2)]) hx hb d_Pla_measurePoints_52 hl (by decide) rfl (fun ls hl => ?_)
              refine lv_aload_n hx hb d_Pla_measurePoints_54 rfl (lv_at hl 2 rfl) ?_
              refine xk_get (C := R_Pla) (T := F_Pla) (N := 9) hx hb hts i_Pla hown hK hP 22 xw_C_at_22 rfl 0 (by decide) u_125 rfl d_Pla_measurePoints_55 ?_
              refine lv_iload_n hx hb d_Pla_measurePoints_58 rfl (lv_at hl 3 rfl) ?_
              refine lv_iload_n hx hb d_Pla_measurePoints_59 rfl (lv_at hl 4 rfl) ?_
              obtain ⟨v17, h_v17, hB⟩ := xo_ob hB
              refine xk_goI (xk_runV (As := [.int w7_1, .int w22_2]) (rest := []) hx hb hml hown hts hK hE (fun _ h => h) hP hS ok_Tow_crossingBelow in_Tow_crossingBelow u_199 (c_Tow_crossingBelow l D cI cZ ad A adK adV hDw w7_1 w22_2 w22_s v17 h_v17) (va_recv hK hP (ci := 2) (q0 := 1) rfl xw_C_at_1) (by decide) rfl hl.1 rfl (Nat.le_of_ble_eq_true rfl) d_Pla_measurePoints_60 ⟨Nat.le_refl _, Nat.le_refl _⟩) (fun _ h => h) hS (fun H locs hP hS => ?_)
              refine lv_istore (lv' := [(5, .int v17), (4, .int v16), (3, .int v15), (0, .ref (ad 22)), (1, .int w7_1), (2, .int w22_2)]) hx hb d_Pla_measurePoints_63 hl (by decide) rfl (fun ls hl => ?_)
              refine lv_aload_n hx hb d_Pla_measurePoints_65 rfl (lv_at hl 3 rfl) ?_
              refine lv_iload_n hx hb d_Pla_measurePoints_66 rfl (lv_at hl 2 rfl) ?_
              refine lv_iload hx hb d_Pla_measurePoints_67 (lv_at hl 1 rfl) ?_
              refine lv_iload hx hb d_Pla_measurePoints_69 (lv_at hl 0 rfl) ?_
              obtain ⟨v18, h_v18, hB⟩ := xo_ob hB
              refine xk_goI (xk_runV (As := [.int v15, .int v16, .int v17]) (rest := []) hx hb hml hown hts hK hE (fun _ h => h) hP hS ok_Pla_streetsThrough in_Pla_streetsThrough u_206 (c_Pla_streetsThrough l D cI cZ ad A adK adV hDw v15 v16 v17 w22_s v18 h_v18) (va_recv hK hP (ci := 1) (q0 := 22) rfl xw_C_at_22) (by decide) rfl hl.1 rfl (Nat.le_of_ble_eq_true rfl) d_Pla_measurePoints_71 ⟨Nat.le_refl _, Nat.le_refl _⟩) (fun _ h => h) hS (fun H locs hP hS => ?_)
              refine lv_istore (lv' := [(6, .int v18), (5, .int v17), (4, .int v16), (3, .int v15), (0, .ref (ad 22)), (1, .int w7_1), (2, .int w22_2)]) hx hb d_Pla_measurePoints_74 hl (by decide) rfl (fun ls hl => ?_)
              refine lv_iload hx hb d_Pla_measurePoints_76 (lv_at hl 0 rfl) ?_
              refine lv_iconst (v := (1 : Int32)) hx hb d_Pla_measurePoints_78 (by decide) ?_
              refine lv_iload_n hx hb d_Pla_measurePoints_79 rfl (lv_at hl 6 rfl) ?_
              refine lv_ishl hx hb d_Pla_measurePoints_80 ?_
              refine lv_iconst (v := (1 : Int32)) hx hb d_Pla_measurePoints_81 (by decide) ?_
              refine lv_isub hx hb d_Pla_measurePoints_82 ?_
              refine lv_iand hx hb d_Pla_measurePoints_83 ?_
              refine lv_iconst (v := (1 : Int32)) hx hb d_Pla_measurePoints_84 (by decide) ?_
              refine lv_iload_n hx hb d_Pla_measurePoints_85 rfl (lv_at hl 5 rfl) ?_
              refine lv_ishl hx hb d_Pla_measurePoints_86 ?_
              refine lv_icmp_ne (tgt := 94) hx hb d_Pla_measurePoints_87 (by decide) (fun c_11 => ?_) (fun c_11 => ?_)
              · replace hB := xo_if_f c_11 hB
                refine lv_iconst (v := (0 : Int32)) hx hb d_Pla_measurePoints_94 (by decide) ?_
                exact mg95 _ _ _ _ _ _ _ hB _ _ _ hP hS (lv_sub hl [4, 5, 6, 3, 2, 1, 0] rfl)
              · replace hB := xo_if_t c_11 hB
                refine lv_iconst (v := (1 : Int32)) hx hb d_Pla_measurePoints_90 (by decide) ?_
                refine lv_goto (tgt := 95) hx hb d_Pla_measurePoints_91 (by decide) ?_
                exact mg95 _ _ _ _ _ _ _ hB _ _ _ hP hS (lv_sub hl [4, 5, 6, 3, 2, 1, 0] rfl)
        obtain ⟨y22, hL22, hB⟩ := xo_ob hB
        refine lp22 1000000 v3 w7_s y22 hL22 ?_ _ _ _ hP hS (lv_sub hl [1, 2, 0] rfl)
        intro t4 ey H locs ls hP hS hl
        subst ey
        obtain ⟨v19, e_v19, hB⟩ := xo_nm_e hB
        refine lv_iinc (v := v19) (lv' := [(1, .int v19), (0, .ref (ad 22))]) hx hb d_Pla_measurePoints_188 hl (k := 1) rfl (by rw [e_v19]; rfl) (by decide) rfl (fun ls hl => ?_)
        clear e_v19
        refine lv_goto (tgt := 7) hx hb d_Pla_measurePoints_191 (by decide) ?_
        have q9 := Option.some.inj hB
        subst q9
        exact ih _ _ _ (xo_elL hL) kx0 _ _ _ hP hS (lv_sub hl [1, 0] rfl)
  obtain ⟨y7, hL7, hF⟩ := xo_ob hF
  refine lp7 1000000 (0 : Int32) t1 y7 hL7 ?_ _ _ _ hP hS (lv_sub hl [1, 0] rfl)
  intro t2 ey H locs ls hP hS hl
  subst ey
  have q9 := Option.some.inj hF
  subst q9
  exact hret 194 _ _ _ d_Pla_measurePoints_194 hP hS
set_option maxHeartbeats 4000000 in
set_option maxRecDepth 100000 in
theorem c_Pla_sidesFar (l : Launch) (D : va_G) (cI cZ : ClassId) (ad : Nat → Nat) (A : Nat → Prop) (adK adV : Nat → Nat) (hDw : ∀ st : XS, va_D A (xw_C ad cI cZ st)) (x1 : Int32) (x2 : Int32) (x3 : Int32) (st : XS) (r9 : Int32) (hF : F_Pla_sidesFar x1 x2 x3 st = some r9) : K_I l D cI cZ A adK adV (xw_C ad cI cZ) y_Pla_sidesFar b_Pla_sidesFar 6 (some .int) 1 23 [.ref (ad 22), .int x1, .int x2, .int x3] st r9 st := by
  refine xk_startI (by decide) .int rfl (Nat.le_of_ble_eq_true rfl) ?_
  intro p e s m args below meth c Q ls hx hb hml hown hts hK hE hP hS hl hret
  replace hown : s.vm.findClass R_Pla = some m.cls := hown
  replace hl : lv_has ls 6 [(0, .ref (ad 22)), (1, .int x1), (2, .int x2), (3, .int x3)] := hl
  unfold F_Pla_sidesFar at hF
  refine lv_iconst (v := (0 : Int32)) hx hb d_Pla_sidesFar_0 (by decide) ?_
  refine lv_istore (lv' := [(4, .int (0 : Int32)), (0, .ref (ad 22)), (1, .int x1), (2, .int x2), (3, .int x3)]) hx hb d_Pla_sidesFar_1 hl (by decide) rfl (fun ls hl => ?_)
  refine lv_iconst (v := (0 : Int32)) hx hb d_Pla_sidesFar_3 (by decide) ?_
  refine lv_istore (lv' := [(5, .int (0 : Int32)), (4, .int (0 : Int32)), (0, .ref (ad 22)), (1, .int x1), (2, .int x2), (3, .int x3)]) hx hb d_Pla_sidesFar_4 hl (by decide) rfl (fun ls hl => ?_)
  have lp6 : ∀ (n : Nat) (w6_4 : Int32) (w6_5 : Int32) (y : Int32), xo_lp (fun q : (Int32 × Int32) => F_Pla_sidesFar_b6 x1 x2 x3 st q.1 q.2) n (w6_4, w6_5) = some y → (∀ (e4 : Int32), e4 = y → ∀ (H : Heap) (locs : List Loc) (ls : Array Slot), va_P D classes (xw_C ad cI cZ st) H → va_S A s.heap H locs → lv_has ls 6 [(4, .int e4)] → W p l e (xk_rm 1 23) s m args below meth c H locs 0 0 Q (F0 m 49 ls [])) → ∀ (H : Heap) (locs : List Loc) (ls : Array Slot), va_P D classes (xw_C ad cI cZ st) H → va_S A s.heap H locs → lv_has ls 6 [(0, .ref (ad 22)), (1, .int x1), (2, .int x2), (3, .int x3), (4, .int w6_4), (5, .int w6_5)] → W p l e (xk_rm 1 23) s m args below meth c H locs 0 0 Q (F0 m 6 ls []) := by
    intro n
    induction n with
    | zero =>
      intro w6_4 w6_5 y hL
      exact nomatch (show (none : Option _) = some y from hL)
    | succ n ih =>
      intro w6_4 w6_5 y hL kx0 H locs ls hP hS hl
      obtain ⟨z9, hB, hL⟩ := xo_lp_s hL
      replace hB : F_Pla_sidesFar_b6 x1 x2 x3 st w6_4 w6_5 = some z9 := hB
      unfold F_Pla_sidesFar_b6 at hB
      refine lv_iload hx hb d_Pla_sidesFar_6 (lv_at hl 5 rfl) ?_
      refine lv_aload_n hx hb d_Pla_sidesFar_8 rfl (lv_at hl 0 rfl) ?_
      refine xk_get (C := R_Pla) (T := F_Pla) (N := 9) hx hb hts i_Pla hown hK hP 22 xw_C_at_22 rfl 0 (by decide) u_125 rfl d_Pla_sidesFar_9 ?_
      refine xk_get (C := R_Tow) (T := F_Tow) (N := 8) hx hb hts i_Tow hown hK hP 1 xw_C_at_1 rfl 4 (by decide) u_90 rfl d_Pla_sidesFar_12 ?_
      refine lv_icmp_ge (tgt := 49) hx hb d_Pla_sidesFar_15 (by decide) (fun c_12 => ?_) (fun c_12 => ?_)
      · replace hB := xo_if_t c_12 hB
        have q9 := Option.some.inj hB
        subst q9
        replace hL := Option.some.inj (xo_elR hL)
        subst hL
        exact kx0 _ rfl _ _ _ hP hS (lv_sub hl [4] rfl)
      · replace hB := xo_if_f c_12 hB
        refine lv_iload_n hx hb d_Pla_sidesFar_18 rfl (lv_at hl 3 rfl) ?_
        refine lv_aload_n hx hb d_Pla_sidesFar_19 rfl (lv_at hl 0 rfl) ?_
        refine xk_get (C := R_Pla) (T := F_Pla) (N := 9) hx hb hts i_Pla hown hK hP 22 xw_C_at_22 rfl 0 (by decide) u_125 rfl d_Pla_sidesFar_20 ?_
        refine lv_iload_n hx hb d_Pla_sidesFar_23 rfl (lv_at hl 1 rfl) ?_
        refine lv_iload_n hx hb d_Pla_sidesFar_24 rfl (lv_at hl 2 rfl) ?_
        refine lv_iload hx hb d_Pla_sidesFar_25 (lv_at hl 5 rfl) ?_
        obtain ⟨v2, h_v2, hB⟩ := xo_ob hB
        refine xk_goI (xk_runV (As := [.int x1, .int x2, .int w6_5]) (rest := [.int x3]) hx hb hml hown hts hK hE (fun _ h => h) hP hS ok_Tow_turn in_Tow_turn u_226 (c_Tow_turn l D cI cZ ad A adK adV hDw x1 x2 w6_5 st v2 h_v2) (va_recv hK hP (ci := 2) (q0 := 1) rfl xw_C_at_1) (by decide) rfl hl.1 rfl (Nat.le_of_ble_eq_true rfl) d_Pla_sidesFar_27 ⟨Nat.le_refl _, Nat.le_refl _⟩) (fun _ h => h) hS (fun H locs hP hS => ?_)
        refine lv_imul hx hb d_Pla_sidesFar_30 ?_
        refine lv_if_le (tgt := 43) hx hb d_Pla_sidesFar_31 (by decide) (fun c_13 => ?_) (fun c_13 => ?_)
        · replace hB := xo_if_t c_13 hB
          obtain ⟨v3, e_v3, hB⟩ := xo_nm_e hB
          refine lv_iinc (v := v3) (lv' := [(5, .int v3), (0, .ref (ad 22)), (1, .int x1), (2, .int x2), (3, .int x3), (4, .int w6_4)]) hx hb d_Pla_sidesFar_43 hl (k := 5) rfl (by rw [e_v3]; rfl) (by decide) rfl (fun ls hl => ?_)
          clear e_v3
          refine lv_goto (tgt := 6) hx hb d_Pla_sidesFar_46 (by decide) ?_
          have q9 := Option.some.inj hB
          subst q9
          exact ih _ _ _ (xo_elL hL) kx0 _ _ _ hP hS (lv_sub hl [1, 2, 3, 4, 5, 0] rfl)
        · replace hB := xo_if_f c_13 hB
          refine lv_iload hx hb d_Pla_sidesFar_34 (lv_at hl 4 rfl) ?_
          refine lv_iconst (v := (1 : Int32)) hx hb d_Pla_sidesFar_36 (by decide) ?_
          refine lv_iload hx hb d_Pla_sidesFar_37 (lv_at hl 5 rfl) ?_
          refine lv_ishl hx hb d_Pla_sidesFar_39 ?_
          refine lv_ior hx hb d_Pla_sidesFar_40 ?_
          refine lv_topi (fun v4 e_v4 => ?_)
          replace hB := xo_nm_u hB e_v4
          clear e_v4
          refine lv_istore (lv' := [(4, .int v4), (0, .ref (ad 22)), (1, .int x1), (2, .int x2), (3, .int x3), (5, .int w6_5)]) hx hb d_Pla_sidesFar_41 hl (by decide) rfl (fun ls hl => ?_)
          obtain ⟨v5, e_v5, hB⟩ := xo_nm_e hB
          refine lv_iinc (v := v5) (lv' := [(5, .int v5), (4, .int v4), (0, .ref (ad 22)), (1, .int x1), (2, .int x2), (3, .int x3)]) hx hb d_Pla_sidesFar_43 hl (k := 5) rfl (by rw [e_v5]; rfl) (by decide) rfl (fun ls hl => ?_)
          clear e_v5
          refine lv_goto (tgt := 6) hx hb d_Pla_sidesFar_46 (by decide) ?_
          have q9 := Option.some.inj hB
          subst q9
          exact ih _ _ _ (xo_elL hL) kx0 _ _ _ hP hS (lv_sub hl [2, 3, 4, 5, 1, 0] rfl)
  obtain ⟨y6, hL6, hF⟩ := xo_ob hF
  refine lp6 1000000 (0 : Int32) (0 : Int32) y6 hL6 ?_ _ _ _ hP hS (lv_sub hl [2, 3, 4, 5, 1, 0] rfl)
  intro o1 ey H locs ls hP hS hl
  subst ey
  refine lv_iload hx hb d_Pla_sidesFar_49 (lv_at hl 0 rfl) ?_
  have q9 := Option.some.inj hF
  subst q9
  exact hret 51 _ _ _ d_Pla_sidesFar_51 rfl hP hS
set_option maxHeartbeats 4000000 in
set_option maxRecDepth 100000 in
theorem c_Pla_cutBy (l : Launch) (D : va_G) (cI cZ : ClassId) (ad : Nat → Nat) (A : Nat → Prop) (adK adV : Nat → Nat) (hDw : ∀ st : XS, va_D A (xw_C ad cI cZ st)) (x1 : Int32) (x2 : Int32) (x3 : Int32) (st : XS) (r9 : Int64) (hF : F_Pla_cutBy x1 x2 x3 st = some r9) : K_L l D cI cZ A adK adV (xw_C ad cI cZ) y_Pla_cutBy b_Pla_cutBy 13 (some .long) 2 49 [.ref (ad 22), .int x1, .int x2, .int x3] st r9 st := by
  refine xk_startL (by decide) rfl (Nat.le_of_ble_eq_true rfl) ?_
  intro p e s m args below meth c Q ls hx hb hml hown hts hK hE hP hS hl hret
  replace hown : s.vm.findClass R_Pla = some m.cls := hown
  replace hl : lv_has ls 13 [(0, .ref (ad 22)), (1, .int x1), (2, .int x2), (3, .int x3)] := hl
  unfold F_Pla_cutBy at hF
  refine lv_lconst (v := (1 : Int64)) hx hb d_Pla_cutBy_0 (by decide) ?_
  refine lv_aload_n hx hb d_Pla_cutBy_1 rfl (lv_at hl 0 rfl) ?_
  refine lv_iload_n hx hb d_Pla_cutBy_2 rfl (lv_at hl 1 rfl) ?_
  refine lv_iload_n hx hb d_Pla_cutBy_3 rfl (lv_at hl 2 rfl) ?_
  refine lv_iconst (v := (1 : Int32)) hx hb d_Pla_cutBy_4 (by decide) ?_
  obtain ⟨v1, h_v1, hF⟩ := xo_ob hF
  refine xk_goI (xk_runV (As := [.int x1, .int x2, .int (1 : Int32)]) (rest := [.long (1 : Int64)]) hx hb hml hown hts hK hE (fun _ h => h) hP hS ok_Pla_sidesFar in_Pla_sidesFar u_222 (c_Pla_sidesFar l D cI cZ ad A adK adV hDw x1 x2 (1 : Int32) st v1 h_v1) (va_recv hK hP (ci := 1) (q0 := 22) rfl xw_C_at_22) (by decide) rfl hl.1 rfl (Nat.le_of_ble_eq_true rfl) d_Pla_cutBy_5 ⟨Nat.le_refl _, Nat.le_refl _⟩) (fun _ h => h) hS (fun H locs hP hS => ?_)
  refine lv_lshl (v := ((1 : Int64) <<< (v1.toInt64 &&& 63))) hx hb d_Pla_cutBy_8 rfl ?_
  refine lv_topl (fun v2 e_v2 => ?_)
  replace hF := xo_nm_u hF e_v2
  clear e_v2
  refine lv_lstore (lv' := [(4, .long v2), (0, .ref (ad 22)), (1, .int x1), (2, .int x2), (3, .int x3)]) hx hb d_Pla_cutBy_9 hl (by decide) rfl (fun ls hl => ?_)
  refine lv_iconst (v := (0 : Int32)) hx hb d_Pla_cutBy_11 (by decide) ?_
  refine lv_istore (lv' := [(6, .int (0 : Int32)), (4, .long v2), (0, .ref (ad 22)), (1, .int x1), (2, .int x2), (3, .int x3)]) hx hb d_Pla_cutBy_12 hl (by decide) rfl (fun ls hl => ?_)
  have lp14 : ∀ (n : Nat) (w14_4 : Int64) (w14_6 : Int32) (y : Int64), xo_lp (fun q : (Int64 × Int32) => F_Pla_cutBy_b14 x1 x2 x3 st q.1 q.2) n (w14_4, w14_6) = some y → (∀ (e4 : Int64), e4 = y → ∀ (H : Heap) (locs : List Loc) (ls : Array Slot), va_P D classes (xw_C ad cI cZ st) H → va_S A s.heap H locs → lv_has ls 13 [(4, .long e4)] → W p l e (xk_rm 2 49) s m args below meth c H locs 0 0 Q (F0 m 172 ls [])) → ∀ (H : Heap) (locs : List Loc) (ls : Array Slot), va_P D classes (xw_C ad cI cZ st) H → va_S A s.heap H locs → lv_has ls 13 [(0, .ref (ad 22)), (1, .int x1), (2, .int x2), (3, .int x3), (4, .long w14_4), (6, .int w14_6)] → W p l e (xk_rm 2 49) s m args below meth c H locs 0 0 Q (F0 m 14 ls []) := by
    intro n
    induction n with
    | zero =>
      intro w14_4 w14_6 y hL
      exact nomatch (show (none : Option _) = some y from hL)
    | succ n ih =>
      intro w14_4 w14_6 y hL kx0 H locs ls hP hS hl
      obtain ⟨z9, hB, hL⟩ := xo_lp_s hL
      replace hB : F_Pla_cutBy_b14 x1 x2 x3 st w14_4 w14_6 = some z9 := hB
      unfold F_Pla_cutBy_b14 at hB
      have mg54 : ∀ (x4 : Int64) (x6 : Int32) (x7 : Int32) (k0 : Int32), F_Pla_cutBy_m54 x1 x2 x3 x4 x6 x7 k0 st = some z9 → ∀ (H : Heap) (locs : List Loc) (ls : Array Slot), va_P D classes (xw_C ad cI cZ st) H → va_S A s.heap H locs → lv_has ls 13 [(0, .ref (ad 22)), (1, .int x1), (2, .int x2), (3, .int x3), (4, .long x4), (6, .int x6), (7, .int x7)] → W p l e (xk_rm 2 49) s m args below meth c H locs 0 0 Q (F0 m 54 ls [.int k0]) := by
        intro x4 x6 x7 k0 hB H locs ls hP hS hl
        unfold F_Pla_cutBy_m54 at hB
        refine lv_istore (lv' := [(8, .int k0), (0, .ref (ad 22)), (1, .int x1), (2, .int x2), (3, .int x3), (4, .long x4), (6, .int x6), (7, .int x7)]) hx hb d_Pla_cutBy_54 hl (by decide) rfl (fun ls hl => ?_)
        refine lv_iload hx hb d_Pla_cutBy_56 (lv_at hl 0 rfl) ?_
        refine lv_iload_n hx hb d_Pla_cutBy_58 rfl (lv_at hl 4 rfl) ?_
        refine lv_aload_n hx hb d_Pla_cutBy_59 rfl (lv_at hl 1 rfl) ?_
        refine xk_get (C := R_Pla) (T := F_Pla) (N := 9) hx hb hts i_Pla hown hK hP 22 xw_C_at_22 rfl 0 (by decide) u_125 rfl d_Pla_cutBy_60 ?_
        refine xk_get (C := R_Tow) (T := F_Tow) (N := 8) hx hb hts i_Tow hown hK hP 1 xw_C_at_1 rfl 2 (by decide) u_85 rfl d_Pla_cutBy_63 ?_
        refine lv_iload hx hb d_Pla_cutBy_66 (lv_at hl 6 rfl) ?_
        obtain ⟨v4, h_v4, hB⟩ := xo_ob hB
        refine xk_iald hx hb hK hP 4 xw_C_at_4 h_v4 d_Pla_cutBy_68 ?_
        refine lv_imul hx hb d_Pla_cutBy_69 ?_
        refine lv_iload_n hx hb d_Pla_cutBy_70 rfl (lv_at hl 3 rfl) ?_
        refine lv_aload_n hx hb d_Pla_cutBy_71 rfl (lv_at hl 1 rfl) ?_
        refine xk_get (C := R_Pla) (T := F_Pla) (N := 9) hx hb hts i_Pla hown hK hP 22 xw_C_at_22 rfl 0 (by decide) u_125 rfl d_Pla_cutBy_72 ?_
        refine xk_get (C := R_Tow) (T := F_Tow) (N := 8) hx hb hts i_Tow hown hK hP 1 xw_C_at_1 rfl 3 (by decide) u_88 rfl d_Pla_cutBy_75 ?_
        refine lv_iload hx hb d_Pla_cutBy_78 (lv_at hl 6 rfl) ?_
        obtain ⟨v5, h_v5, hB⟩ := xo_ob hB
        refine xk_iald hx hb hK hP 5 xw_C_at_5 h_v5 d_Pla_cutBy_80 ?_
        refine lv_imul hx hb d_Pla_cutBy_81 ?_
        refine lv_isub hx hb d_Pla_cutBy_82 ?_
        refine lv_imul hx hb d_Pla_cutBy_83 ?_
        refine lv_topi (fun v6 e_v6 => ?_)
        replace hB := xo_nm_u hB e_v6
        clear e_v6
        refine lv_istore (lv' := [(9, .int v6), (8, .int k0), (0, .ref (ad 22)), (1, .int x1), (2, .int x2), (3, .int x3), (4, .long x4), (6, .int x6), (7, .int x7)]) hx hb d_Pla_cutBy_84 hl (by decide) rfl (fun ls hl => ?_)
        refine lv_iload hx hb d_Pla_cutBy_86 (lv_at hl 1 rfl) ?_
        refine lv_iload_n hx hb d_Pla_cutBy_88 rfl (lv_at hl 3 rfl) ?_
        refine lv_aload_n hx hb d_Pla_cutBy_89 rfl (lv_at hl 2 rfl) ?_
        refine xk_get (C := R_Pla) (T := F_Pla) (N := 9) hx hb hts i_Pla hown hK hP 22 xw_C_at_22 rfl 0 (by decide) u_125 rfl d_Pla_cutBy_90 ?_
        refine xk_get (C := R_Tow) (T := F_Tow) (N := 8) hx hb hts i_Tow hown hK hP 1 xw_C_at_1 rfl 3 (by decide) u_88 rfl d_Pla_cutBy_93 ?_
        refine lv_iload hx hb d_Pla_cutBy_96 (lv_at hl 7 rfl) ?_
        obtain ⟨v7, h_v7, hB⟩ := xo_ob hB
        refine xk_iald hx hb hK hP 5 xw_C_at_5 h_v7 d_Pla_cutBy_98 ?_
        refine lv_imul hx hb d_Pla_cutBy_99 ?_
        refine lv_iload_n hx hb d_Pla_cutBy_100 rfl (lv_at hl 5 rfl) ?_
        refine lv_aload_n hx hb d_Pla_cutBy_101 rfl (lv_at hl 2 rfl) ?_
        refine xk_get (C := R_Pla) (T := F_Pla) (N := 9) hx hb hts i_Pla hown hK hP 22 xw_C_at_22 rfl 0 (by decide) u_125 rfl d_Pla_cutBy_102 ?_
        refine xk_get (C := R_Tow) (T := F_Tow) (N := 8) hx hb hts i_Tow hown hK hP 1 xw_C_at_1 rfl 1 (by decide) u_82 rfl d_Pla_cutBy_105 ?_
        refine lv_iload hx hb d_Pla_cutBy_108 (lv_at hl 7 rfl) ?_
        obtain ⟨v8, h_v8, hB⟩ := xo_ob hB
        refine xk_iald hx hb hK hP 3 xw_C_at_3 h_v8 d_Pla_cutBy_110 ?_
        refine lv_imul hx hb d_Pla_cutBy_111 ?_
        refine lv_isub hx hb d_Pla_cutBy_112 ?_
        refine lv_imul hx hb d_Pla_cutBy_113 ?_
        refine lv_topi (fun v9 e_v9 => ?_)
        replace hB := xo_nm_u hB e_v9
        clear e_v9
        refine lv_istore (lv' := [(10, .int v9), (9, .int v6), (8, .int k0), (0, .ref (ad 22)), (1, .int x1), (2, .int x2), (3, .int x3), (4, .long x4), (6, .int x6), (7, .int x7)]) hx hb d_Pla_cutBy_114 hl (by decide) rfl (fun ls hl => ?_)
        refine lv_aload_n hx hb d_Pla_cutBy_116 rfl (lv_at hl 3 rfl) ?_
        refine lv_iload hx hb d_Pla_cutBy_117 (lv_at hl 1 rfl) ?_
        refine lv_iload hx hb d_Pla_cutBy_119 (lv_at hl 0 rfl) ?_
        refine lv_iload hx hb d_Pla_cutBy_121 (lv_at hl 2 rfl) ?_
        refine lv_iload hx hb d_Pla_cutBy_123 (lv_at hl 9 rfl) ?_
        refine lv_imul hx hb d_Pla_cutBy_125 ?_
        obtain ⟨v10, h_v10, hB⟩ := xo_ob hB
        refine xk_goI (xk_runV (As := [.int v6, .int v9, .int (k0 * x7)]) (rest := []) hx hb hml hown hts hK hE (fun _ h => h) hP hS ok_Pla_sidesOfPoint in_Pla_sidesOfPoint u_214 (c_Pla_sidesOfPoint l D cI cZ ad A adK adV hDw v6 v9 (k0 * x7) st v10 h_v10) (va_recv hK hP (ci := 1) (q0 := 22) rfl xw_C_at_22) (by decide) rfl hl.1 rfl (Nat.le_of_ble_eq_true rfl) d_Pla_cutBy_126 ⟨Nat.le_refl _, Nat.le_refl _⟩) (fun _ h => h) hS (fun H locs hP hS => ?_)
        refine lv_istore (lv' := [(11, .int v10), (10, .int v9), (9, .int v6), (8, .int k0), (0, .ref (ad 22)), (1, .int x1), (2, .int x2), (3, .int x3), (4, .long x4), (6, .int x6), (7, .int x7)]) hx hb d_Pla_cutBy_129 hl (by decide) rfl (fun ls hl => ?_)
        refine lv_aload_n hx hb d_Pla_cutBy_131 rfl (lv_at hl 4 rfl) ?_
        refine lv_iload hx hb d_Pla_cutBy_132 (lv_at hl 2 rfl) ?_
        refine lv_iload hx hb d_Pla_cutBy_134 (lv_at hl 1 rfl) ?_
        refine lv_iload hx hb d_Pla_cutBy_136 (lv_at hl 3 rfl) ?_
        refine lv_iload hx hb d_Pla_cutBy_138 (lv_at hl 10 rfl) ?_
        refine lv_imul hx hb d_Pla_cutBy_140 ?_
        obtain ⟨v11, h_v11, hB⟩ := xo_ob hB
        refine xk_goI (xk_runV (As := [.int v6, .int v9, .int (k0 * x7)]) (rest := []) hx hb hml hown hts hK hE (fun _ h => h) hP hS ok_Pla_streetsThrough in_Pla_streetsThrough u_206 (c_Pla_streetsThrough l D cI cZ ad A adK adV hDw v6 v9 (k0 * x7) st v11 h_v11) (va_recv hK hP (ci := 1) (q0 := 22) rfl xw_C_at_22) (by decide) rfl hl.1 rfl (Nat.le_of_ble_eq_true rfl) d_Pla_cutBy_141 ⟨Nat.le_refl _, Nat.le_refl _⟩) (fun _ h => h) hS (fun H locs hP hS => ?_)
        refine lv_istore (lv' := [(12, .int v11), (11, .int v10), (10, .int v9), (9, .int v6), (8, .int k0), (0, .ref (ad 22)), (1, .int x1), (2, .int x2), (3, .int x3), (4, .long x4), (6, .int x6), (7, .int x7)]) hx hb d_Pla_cutBy_144 hl (by decide) rfl (fun ls hl => ?_)
        refine lv_lload hx hb d_Pla_cutBy_146 (lv_at hl 9 rfl) ?_
        refine lv_lconst (v := (1 : Int64)) hx hb d_Pla_cutBy_148 (by decide) ?_
        refine lv_iload hx hb d_Pla_cutBy_149 (lv_at hl 1 rfl) ?_
        refine lv_iload hx hb d_Pla_cutBy_151 (lv_at hl 0 rfl) ?_
        refine lv_aload_n hx hb d_Pla_cutBy_153 rfl (lv_at hl 5 rfl) ?_
        refine lv_iload_n hx hb d_Pla_cutBy_154 rfl (lv_at hl 6 rfl) ?_
        refine lv_iload_n hx hb d_Pla_cutBy_155 rfl (lv_at hl 7 rfl) ?_
        refine lv_iconst (v := (-1 : Int32)) hx hb d_Pla_cutBy_156 (by decide) ?_
        obtain ⟨v12, h_v12, hB⟩ := xo_ob hB
        refine xk_goI (xk_runV (As := [.int x1, .int x2, .int (-1 : Int32)]) (rest := [.int v11, .int v10, .long (1 : Int64), .long x4]) hx hb hml hown hts hK hE (fun _ h => h) hP hS ok_Pla_sidesFar in_Pla_sidesFar u_222 (c_Pla_sidesFar l D cI cZ ad A adK adV hDw x1 x2 (-1 : Int32) st v12 h_v12) (va_recv hK hP (ci := 1) (q0 := 22) rfl xw_C_at_22) (by decide) rfl hl.1 rfl (Nat.le_of_ble_eq_true rfl) d_Pla_cutBy_157 ⟨Nat.le_refl _, Nat.le_refl _⟩) (fun _ h => h) hS (fun H locs hP hS => ?_)
        refine lv_iand hx hb d_Pla_cutBy_160 ?_
        refine lv_ior hx hb d_Pla_cutBy_161 ?_
        refine lv_lshl (v := ((1 : Int64) <<< ((v10 ||| (v11 &&& v12)).toInt64 &&& 63))) hx hb d_Pla_cutBy_162 rfl ?_
        refine lv_lor hx hb d_Pla_cutBy_163 ?_
        refine lv_topl (fun v13 e_v13 => ?_)
        replace hB := xo_nm_u hB e_v13
        clear e_v13
        refine lv_lstore (lv' := [(4, .long v13), (12, .int v11), (11, .int v10), (10, .int v9), (9, .int v6), (8, .int k0), (0, .ref (ad 22)), (1, .int x1), (2, .int x2), (3, .int x3), (6, .int x6), (7, .int x7)]) hx hb d_Pla_cutBy_164 hl (by decide) rfl (fun ls hl => ?_)
        obtain ⟨v14, e_v14, hB⟩ := xo_nm_e hB
        refine lv_iinc (v := v14) (lv' := [(6, .int v14), (4, .long v13), (12, .int v11), (11, .int v10), (10, .int v9), (9, .int v6), (8, .int k0), (0, .ref (ad 22)), (1, .int x1), (2, .int x2), (3, .int x3), (7, .int x7)]) hx hb d_Pla_cutBy_166 hl (k := 10) rfl (by rw [e_v14]; rfl) (by decide) rfl (fun ls hl => ?_)
        clear e_v14
        refine lv_goto (tgt := 14) hx hb d_Pla_cutBy_169 (by decide) ?_
        have q9 := Option.some.inj hB
        subst q9
        exact ih _ _ _ (xo_elL hL) kx0 _ _ _ hP hS (lv_sub hl [7, 8, 9, 10, 1, 0] rfl)
      refine lv_iload hx hb d_Pla_cutBy_14 (lv_at hl 5 rfl) ?_
      refine lv_aload_n hx hb d_Pla_cutBy_16 rfl (lv_at hl 0 rfl) ?_
      refine xk_get (C := R_Pla) (T := F_Pla) (N := 9) hx hb hts i_Pla hown hK hP 22 xw_C_at_22 rfl 0 (by decide) u_125 rfl d_Pla_cutBy_17 ?_
      refine xk_get (C := R_Tow) (T := F_Tow) (N := 8) hx hb hts i_Tow hown hK hP 1 xw_C_at_1 rfl 4 (by decide) u_90 rfl d_Pla_cutBy_20 ?_
      refine lv_icmp_ge (tgt := 172) hx hb d_Pla_cutBy_23 (by decide) (fun c_14 => ?_) (fun c_14 => ?_)
      · replace hB := xo_if_t c_14 hB
        have q9 := Option.some.inj hB
        subst q9
        replace hL := Option.some.inj (xo_elR hL)
        subst hL
        exact kx0 _ rfl _ _ _ hP hS (lv_sub hl [4] rfl)
      · replace hB := xo_if_f c_14 hB
        refine lv_aload_n hx hb d_Pla_cutBy_26 rfl (lv_at hl 0 rfl) ?_
        refine xk_get (C := R_Pla) (T := F_Pla) (N := 9) hx hb hts i_Pla hown hK hP 22 xw_C_at_22 rfl 0 (by decide) u_125 rfl d_Pla_cutBy_27 ?_
        refine lv_iload_n hx hb d_Pla_cutBy_30 rfl (lv_at hl 1 rfl) ?_
        refine lv_iload_n hx hb d_Pla_cutBy_31 rfl (lv_at hl 2 rfl) ?_
        refine lv_iload hx hb d_Pla_cutBy_32 (lv_at hl 5 rfl) ?_
        obtain ⟨v15, h_v15, hB⟩ := xo_ob hB
        refine xk_goI (xk_runV (As := [.int x1, .int x2, .int w14_6]) (rest := []) hx hb hml hown hts hK hE (fun _ h => h) hP hS ok_Tow_turn in_Tow_turn u_226 (c_Tow_turn l D cI cZ ad A adK adV hDw x1 x2 w14_6 st v15 h_v15) (va_recv hK hP (ci := 2) (q0 := 1) rfl xw_C_at_1) (by decide) rfl hl.1 rfl (Nat.le_of_ble_eq_true rfl) d_Pla_cutBy_34 ⟨Nat.le_refl _, Nat.le_refl _⟩) (fun _ h => h) hS (fun H locs hP hS => ?_)
        refine lv_istore (lv' := [(7, .int v15), (0, .ref (ad 22)), (1, .int x1), (2, .int x2), (3, .int x3), (4, .long w14_4), (6, .int w14_6)]) hx hb d_Pla_cutBy_37 hl (by decide) rfl (fun ls hl => ?_)
        refine lv_iload hx hb d_Pla_cutBy_39 (lv_at hl 0 rfl) ?_
        refine lv_if_eq (tgt := 166) hx hb d_Pla_cutBy_41 (by decide) (fun c_15 => ?_) (fun c_15 => ?_)
        · replace hB := xo_if_t c_15 hB
          obtain ⟨v16, e_v16, hB⟩ := xo_nm_e hB
          refine lv_iinc (v := v16) (lv' := [(6, .int v16), (7, .int v15), (0, .ref (ad 22)), (1, .int x1), (2, .int x2), (3, .int x3), (4, .long w14_4)]) hx hb d_Pla_cutBy_166 hl (k := 6) rfl (by rw [e_v16]; rfl) (by decide) rfl (fun ls hl => ?_)
          clear e_v16
          refine lv_goto (tgt := 14) hx hb d_Pla_cutBy_169 (by decide) ?_
          have q9 := Option.some.inj hB
          subst q9
          exact ih _ _ _ (xo_elL hL) kx0 _ _ _ hP hS (lv_sub hl [2, 3, 4, 5, 6, 0] rfl)
        · replace hB := xo_if_f c_15 hB
          refine lv_iload hx hb d_Pla_cutBy_44 (lv_at hl 0 rfl) ?_
          refine lv_if_ge (tgt := 53) hx hb d_Pla_cutBy_46 (by decide) (fun c_16 => ?_) (fun c_16 => ?_)
          · replace hB := xo_if_t c_16 hB
            refine lv_iconst (v := (1 : Int32)) hx hb d_Pla_cutBy_53 (by decide) ?_
            exact mg54 _ _ _ _ hB _ _ _ hP hS (lv_sub hl [1, 2, 3, 4, 5, 6, 0] rfl)
          · replace hB := xo_if_f c_16 hB
            refine lv_iconst (v := (-1 : Int32)) hx hb d_Pla_cutBy_49 (by decide) ?_
            refine lv_goto (tgt := 54) hx hb d_Pla_cutBy_50 (by decide) ?_
            exact mg54 _ _ _ _ hB _ _ _ hP hS (lv_sub hl [1, 2, 3, 4, 5, 6, 0] rfl)
  obtain ⟨y14, hL14, hF⟩ := xo_ob hF
  refine lp14 1000000 v2 (0 : Int32) y14 hL14 ?_ _ _ _ hP hS (lv_sub hl [2, 3, 4, 5, 1, 0] rfl)
  intro o3 ey H locs ls hP hS hl
  subst ey
  refine lv_lload hx hb d_Pla_cutBy_172 (lv_at hl 0 rfl) ?_
  have q9 := Option.some.inj hF
  subst q9
  exact hret 174 _ _ _ d_Pla_cutBy_174 hP hS
set_option maxHeartbeats 4000000 in
set_option maxRecDepth 100000 in
theorem c_Pla_onBothSides (l : Launch) (D : va_G) (cI cZ : ClassId) (ad : Nat → Nat) (A : Nat → Prop) (adK adV : Nat → Nat) (hDw : ∀ st : XS, va_D A (xw_C ad cI cZ st)) (x0 : Int64) (x2 : Int32) (st : XS) (r9 : Int64) (hF : F_Pla_onBothSides x0 x2 = some r9) : K_L l D cI cZ A adK adV (xw_C ad cI cZ) y_Pla_onBothSides b_Pla_onBothSides 3 (some .long) 0 0 [.long x0, .int x2] st r9 st := by
  refine xk_startL (by decide) rfl (Nat.le_of_ble_eq_true rfl) ?_
  intro p e s m args below meth c Q ls hx hb hml hown hts hK hE hP hS hl hret
  replace hown : s.vm.findClass R_Pla = some m.cls := hown
  replace hl : lv_has ls 3 [(0, .long x0), (2, .int x2)] := hl
  unfold F_Pla_onBothSides at hF
  refine lv_lload_n hx hb d_Pla_onBothSides_0 rfl (lv_at hl 0 rfl) ?_
  refine lv_lload_n hx hb d_Pla_onBothSides_1 rfl (lv_at hl 0 rfl) ?_
  refine lv_iconst (v := (1 : Int32)) hx hb d_Pla_onBothSides_2 (by decide) ?_
  refine lv_iload_n hx hb d_Pla_onBothSides_3 rfl (lv_at hl 1 rfl) ?_
  refine lv_ishl hx hb d_Pla_onBothSides_4 ?_
  refine lv_lshl (v := (x0 <<< (((1 : Int32) <<< (x2 &&& 31)).toInt64 &&& 63))) hx hb d_Pla_onBothSides_5 rfl ?_
  refine lv_lor hx hb d_Pla_onBothSides_6 ?_
  have q9 := Option.some.inj hF
  subst q9
  exact hret 7 _ _ _ d_Pla_onBothSides_7 hP hS
set_option maxHeartbeats 4000000 in
set_option maxRecDepth 100000 in
theorem c_Pla_measureQuarters (l : Launch) (D : va_G) (cI cZ : ClassId) (ad : Nat → Nat) (A : Nat → Prop) (adK adV : Nat → Nat) (hDw : ∀ st : XS, va_D A (xw_C ad cI cZ st)) (st : XS) (st9 : XS) (hF : F_Pla_measureQuarters  st = some st9) : K_V l D cI cZ A adK adV (xw_C ad cI cZ) y_Pla_measureQuarters b_Pla_measureQuarters 6 none 3 81 [.ref (ad 22)] st st9 := by
  refine xk_startV (by decide) rfl (Nat.le_of_ble_eq_true rfl) ?_
  intro p e s m args below meth c Q ls hx hb hml hown hts hK hE hP hS hl hret
  replace hown : s.vm.findClass R_Pla = some m.cls := hown
  replace hl : lv_has ls 6 [(0, .ref (ad 22))] := hl
  unfold F_Pla_measureQuarters at hF
  have mg16 : ∀ (k1 : Int64) (xs : XS), F_Pla_measureQuarters_m16 k1 xs = some st9 → ∀ (H : Heap) (locs : List Loc) (ls : Array Slot), va_P D classes (xw_C ad cI cZ xs) H → va_S A s.heap H locs → lv_has ls 6 [(0, .ref (ad 22))] → W p l e (xk_rm 3 81) s m args below meth c H locs 0 0 Q (F0 m 16 ls [.long k1, .ref (ad 22)]) := by
    intro k1 xs hF H locs ls hP hS hl
    unfold F_Pla_measureQuarters_m16 at hF
    obtain ⟨t1, e_t1, hF⟩ := xo_nm_e hF
    refine xk_put (C := R_Pla) (T := F_Pla) (N := 9) (ty := .long) hx hb hts i_Pla t_Pla t_Pla_ok n_Pla hown hK hP (hDw _) hS 22 xw_C_at_22 rfl 1 (by decide) u_126 rfl (by decide +kernel) rfl rfl (Nat.le_of_ble_eq_true rfl) (xw_C_put_22_1 _) d_Pla_measureQuarters_16 (fun H locs hP hS => ?_)
    replace hP : va_P D classes (xw_C ad cI cZ t1) H := by rw [e_t1]; exact hP
    clear e_t1
    refine lv_aload_n hx hb d_Pla_measureQuarters_19 rfl (lv_at hl 0 rfl) ?_
    refine lv_aload_n hx hb d_Pla_measureQuarters_20 rfl (lv_at hl 0 rfl) ?_
    refine xk_get (C := R_Pla) (T := F_Pla) (N := 9) hx hb hts i_Pla hown hK hP 22 xw_C_at_22 rfl 1 (by decide) u_126 rfl d_Pla_measureQuarters_21 ?_
    obtain ⟨t2, e_t2, hF⟩ := xo_nm_e hF
    refine xk_put (C := R_Pla) (T := F_Pla) (N := 9) (ty := .long) hx hb hts i_Pla t_Pla t_Pla_ok n_Pla hown hK hP (hDw _) hS 22 xw_C_at_22 rfl 2 (by decide) u_129 rfl (by decide +kernel) rfl rfl (Nat.le_of_ble_eq_true rfl) (xw_C_put_22_2 _) d_Pla_measureQuarters_24 (fun H locs hP hS => ?_)
    replace hP : va_P D classes (xw_C ad cI cZ t2) H := by rw [e_t2]; exact hP
    clear e_t2
    refine lv_iconst (v := (0 : Int32)) hx hb d_Pla_measureQuarters_27 (by decide) ?_
    refine lv_istore_n (lv' := [(1, .int (0 : Int32)), (0, .ref (ad 22))]) hx hb d_Pla_measureQuarters_28 rfl hl (by decide) rfl (fun ls hl => ?_)
    have lp29 : ∀ (n : Nat) (w29_1 : Int32) (w29_s : XS) (y : XS), xo_lp (fun q : (Int32 × XS) => F_Pla_measureQuarters_b29 q.1 q.2) n (w29_1, w29_s) = some y → (∀  (es : XS), es = y → ∀ (H : Heap) (locs : List Loc) (ls : Array Slot), va_P D classes (xw_C ad cI cZ es) H → va_S A s.heap H locs → lv_has ls 6 [] → W p l e (xk_rm 3 81) s m args below meth c H locs 0 0 Q (F0 m 130 ls [])) → ∀ (H : Heap) (locs : List Loc) (ls : Array Slot), va_P D classes (xw_C ad cI cZ w29_s) H → va_S A s.heap H locs → lv_has ls 6 [(0, .ref (ad 22)), (1, .int w29_1)] → W p l e (xk_rm 3 81) s m args below meth c H locs 0 0 Q (F0 m 29 ls []) := by
      intro n
      induction n with
      | zero =>
        intro w29_1 w29_s y hL
        exact nomatch (show (none : Option _) = some y from hL)
      | succ n ih =>
        intro w29_1 w29_s y hL kx0 H locs ls hP hS hl
        obtain ⟨z9, hB, hL⟩ := xo_lp_s hL
        replace hB : F_Pla_measureQuarters_b29 w29_1 w29_s = some z9 := hB
        unfold F_Pla_measureQuarters_b29 at hB
        refine lv_iload_n hx hb d_Pla_measureQuarters_29 rfl (lv_at hl 1 rfl) ?_
        refine lv_aload_n hx hb d_Pla_measureQuarters_30 rfl (lv_at hl 0 rfl) ?_
        refine xk_get (C := R_Pla) (T := F_Pla) (N := 9) hx hb hts i_Pla hown hK hP 22 xw_C_at_22 rfl 0 (by decide) u_125 rfl d_Pla_measureQuarters_31 ?_
        refine xk_get (C := R_Tow) (T := F_Tow) (N := 8) hx hb hts i_Tow hown hK hP 1 xw_C_at_1 rfl 4 (by decide) u_90 rfl d_Pla_measureQuarters_34 ?_
        refine lv_icmp_ge (tgt := 130) hx hb d_Pla_measureQuarters_37 (by decide) (fun c_17 => ?_) (fun c_17 => ?_)
        · replace hB := xo_if_t c_17 hB
          have q9 := Option.some.inj hB
          subst q9
          replace hL := Option.some.inj (xo_elR hL)
          subst hL
          exact kx0 _ rfl _ _ _ hP hS (lv_sub hl [] rfl)
        · replace hB := xo_if_f c_17 hB
          refine lv_aload_n hx hb d_Pla_measureQuarters_40 rfl (lv_at hl 0 rfl) ?_
          refine xk_get (C := R_Pla) (T := F_Pla) (N := 9) hx hb hts i_Pla hown hK hP 22 xw_C_at_22 rfl 0 (by decide) u_125 rfl d_Pla_measureQuarters_41 ?_
          refine xk_get (C := R_Tow) (T := F_Tow) (N := 8) hx hb hts i_Tow hown hK hP 1 xw_C_at_1 rfl 1 (by decide) u_82 rfl d_Pla_measureQuarters_44 ?_
          refine lv_iload_n hx hb d_Pla_measureQuarters_47 rfl (lv_at hl 1 rfl) ?_
          obtain ⟨v4, h_v4, hB⟩ := xo_ob hB
          refine xk_iald hx hb hK hP 3 xw_C_at_3 h_v4 d_Pla_measureQuarters_48 ?_
          refine lv_istore_n (lv' := [(2, .int v4), (0, .ref (ad 22)), (1, .int w29_1)]) hx hb d_Pla_measureQuarters_49 rfl hl (by decide) rfl (fun ls hl => ?_)
          refine lv_aload_n hx hb d_Pla_measureQuarters_50 rfl (lv_at hl 1 rfl) ?_
          refine xk_get (C := R_Pla) (T := F_Pla) (N := 9) hx hb hts i_Pla hown hK hP 22 xw_C_at_22 rfl 0 (by decide) u_125 rfl d_Pla_measureQuarters_51 ?_
          refine xk_get (C := R_Tow) (T := F_Tow) (N := 8) hx hb hts i_Tow hown hK hP 1 xw_C_at_1 rfl 2 (by decide) u_85 rfl d_Pla_measureQuarters_54 ?_
          refine lv_iload_n hx hb d_Pla_measureQuarters_57 rfl (lv_at hl 2 rfl) ?_
          obtain ⟨v5, h_v5, hB⟩ := xo_ob hB
          refine xk_iald hx hb hK hP 4 xw_C_at_4 h_v5 d_Pla_measureQuarters_58 ?_
          refine lv_istore_n (lv' := [(3, .int v5), (2, .int v4), (0, .ref (ad 22)), (1, .int w29_1)]) hx hb d_Pla_measureQuarters_59 rfl hl (by decide) rfl (fun ls hl => ?_)
          refine lv_lconst (v := (1 : Int64)) hx hb d_Pla_measureQuarters_60 (by decide) ?_
          refine lv_aload_n hx hb d_Pla_measureQuarters_61 rfl (lv_at hl 2 rfl) ?_
          refine lv_iload_n hx hb d_Pla_measureQuarters_62 rfl (lv_at hl 1 rfl) ?_
          refine lv_iload_n hx hb d_Pla_measureQuarters_63 rfl (lv_at hl 0 rfl) ?_
          refine lv_iconst (v := (1 : Int32)) hx hb d_Pla_measureQuarters_64 (by decide) ?_
          obtain ⟨v6, h_v6, hB⟩ := xo_ob hB
          refine xk_goI (xk_runV (As := [.int v4, .int v5, .int (1 : Int32)]) (rest := [.long (1 : Int64)]) hx hb hml hown hts hK hE (fun _ h => h) hP hS ok_Pla_sidesFar in_Pla_sidesFar u_222 (c_Pla_sidesFar l D cI cZ ad A adK adV hDw v4 v5 (1 : Int32) w29_s v6 h_v6) (va_recv hK hP (ci := 1) (q0 := 22) rfl xw_C_at_22) (by decide) rfl hl.1 rfl (Nat.le_of_ble_eq_true rfl) d_Pla_measureQuarters_65 ⟨Nat.le_refl _, Nat.le_refl _⟩) (fun _ h => h) hS (fun H locs hP hS => ?_)
          refine lv_lshl (v := ((1 : Int64) <<< (v6.toInt64 &&& 63))) hx hb d_Pla_measureQuarters_68 rfl ?_
          refine lv_lconst (v := (1 : Int64)) hx hb d_Pla_measureQuarters_69 (by decide) ?_
          refine lv_aload_n hx hb d_Pla_measureQuarters_70 rfl (lv_at hl 2 rfl) ?_
          refine lv_iload_n hx hb d_Pla_measureQuarters_71 rfl (lv_at hl 1 rfl) ?_
          refine lv_iload_n hx hb d_Pla_measureQuarters_72 rfl (lv_at hl 0 rfl) ?_
          refine lv_iconst (v := (-1 : Int32)) hx hb d_Pla_measureQuarters_73 (by decide) ?_
          obtain ⟨v7, h_v7, hB⟩ := xo_ob hB
          refine xk_goI (xk_runV (As := [.int v4, .int v5, .int (-1 : Int32)]) (rest := [.long (1 : Int64), .long ((1 : Int64) <<< (v6.toInt64 &&& 63))]) hx hb hml hown hts hK hE (fun _ h => h) hP hS ok_Pla_sidesFar in_Pla_sidesFar u_222 (c_Pla_sidesFar l D cI cZ ad A adK adV hDw v4 v5 (-1 : Int32) w29_s v7 h_v7) (va_recv hK hP (ci := 1) (q0 := 22) rfl xw_C_at_22) (by decide) rfl hl.1 rfl (Nat.le_of_ble_eq_true rfl) d_Pla_measureQuarters_74 ⟨Nat.le_refl _, Nat.le_refl _⟩) (fun _ h => h) hS (fun H locs hP hS => ?_)
          refine lv_lshl (v := ((1 : Int64) <<< (v7.toInt64 &&& 63))) hx hb d_Pla_measureQuarters_77 rfl ?_
          refine lv_lor hx hb d_Pla_measureQuarters_78 ?_
          refine lv_topl (fun v8 e_v8 => ?_)
          replace hB := xo_nm_u hB e_v8
          clear e_v8
          refine lv_lstore (lv' := [(4, .long v8), (3, .int v5), (2, .int v4), (0, .ref (ad 22)), (1, .int w29_1)]) hx hb d_Pla_measureQuarters_79 hl (by decide) rfl (fun ls hl => ?_)
          refine lv_aload_n hx hb d_Pla_measureQuarters_81 rfl (lv_at hl 3 rfl) ?_
          refine lv_dup hx hb d_Pla_measureQuarters_82 rfl ?_
          refine xk_get (C := R_Pla) (T := F_Pla) (N := 9) hx hb hts i_Pla hown hK hP 22 xw_C_at_22 rfl 1 (by decide) u_126 rfl d_Pla_measureQuarters_83 ?_
          refine lv_aload_n hx hb d_Pla_measureQuarters_86 rfl (lv_at hl 3 rfl) ?_
          refine lv_iload_n hx hb d_Pla_measureQuarters_87 rfl (lv_at hl 2 rfl) ?_
          refine lv_iload_n hx hb d_Pla_measureQuarters_88 rfl (lv_at hl 1 rfl) ?_
          refine lv_aload_n hx hb d_Pla_measureQuarters_89 rfl (lv_at hl 3 rfl) ?_
          refine xk_get (C := R_Pla) (T := F_Pla) (N := 9) hx hb hts i_Pla hown hK hP 22 xw_C_at_22 rfl 0 (by decide) u_125 rfl d_Pla_measureQuarters_90 ?_
          refine xk_get (C := R_Tow) (T := F_Tow) (N := 8) hx hb hts i_Tow hown hK hP 1 xw_C_at_1 rfl 3 (by decide) u_88 rfl d_Pla_measureQuarters_93 ?_
          refine lv_iload_n hx hb d_Pla_measureQuarters_96 rfl (lv_at hl 4 rfl) ?_
          obtain ⟨v9, h_v9, hB⟩ := xo_ob hB
          refine xk_iald hx hb hK hP 5 xw_C_at_5 h_v9 d_Pla_measureQuarters_97 ?_
          obtain ⟨v10, h_v10, hB⟩ := xo_ob hB
          refine xk_goL (xk_runV (As := [.int v4, .int v5, .int v9]) (rest := [.long (w29_s.2 0), .ref (ad 22)]) hx hb hml hown hts hK hE (fun _ h => h) hP hS ok_Pla_cutBy in_Pla_cutBy u_227 (c_Pla_cutBy l D cI cZ ad A adK adV hDw v4 v5 v9 w29_s v10 h_v10) (va_recv hK hP (ci := 1) (q0 := 22) rfl xw_C_at_22) (by decide) rfl hl.1 rfl (Nat.le_of_ble_eq_true rfl) d_Pla_measureQuarters_98 ⟨Nat.le_refl _, Nat.le_refl _⟩) (fun _ h => h) hS (fun H locs hP hS => ?_)
          refine lv_iload_n hx hb d_Pla_measureQuarters_101 rfl (lv_at hl 4 rfl) ?_
          obtain ⟨v11, h_v11, hB⟩ := xo_ob hB
          refine xk_goL (xk_runS (As := [.long v10, .int w29_1]) (rest := [.long (w29_s.2 0), .ref (ad 22)]) hx hb hml hown hts hK hE (fun _ h => h) hP hS ok_Pla_onBothSides st_Pla_onBothSides u_231 (c_Pla_onBothSides l D cI cZ ad A adK adV hDw v10 w29_1 w29_s v11 h_v11) (by decide) rfl hl.1 rfl (Nat.le_of_ble_eq_true rfl) d_Pla_measureQuarters_102 ⟨Nat.le_refl _, Nat.le_refl _⟩) (fun _ h => h) hS (fun H locs hP hS => ?_)
          refine lv_lor hx hb d_Pla_measureQuarters_105 ?_
          obtain ⟨t12, e_t12, hB⟩ := xo_nm_e hB
          refine xk_put (C := R_Pla) (T := F_Pla) (N := 9) (ty := .long) hx hb hts i_Pla t_Pla t_Pla_ok n_Pla hown hK hP (hDw _) hS 22 xw_C_at_22 rfl 1 (by decide) u_126 rfl (by decide +kernel) rfl rfl (Nat.le_of_ble_eq_true rfl) (xw_C_put_22_1 _) d_Pla_measureQuarters_106 (fun H locs hP hS => ?_)
          replace hP : va_P D classes (xw_C ad cI cZ t12) H := by rw [e_t12]; exact hP
          clear e_t12
          refine lv_aload_n hx hb d_Pla_measureQuarters_109 rfl (lv_at hl 3 rfl) ?_
          refine lv_dup hx hb d_Pla_measureQuarters_110 rfl ?_
          refine xk_get (C := R_Pla) (T := F_Pla) (N := 9) hx hb hts i_Pla hown hK hP 22 xw_C_at_22 rfl 2 (by decide) u_129 rfl d_Pla_measureQuarters_111 ?_
          refine lv_lload hx hb d_Pla_measureQuarters_114 (lv_at hl 0 rfl) ?_
          refine lv_iload_n hx hb d_Pla_measureQuarters_116 rfl (lv_at hl 4 rfl) ?_
          obtain ⟨v13, h_v13, hB⟩ := xo_ob hB
          refine xk_goL (xk_runS (As := [.long v8, .int w29_1]) (rest := [.long (t12.2 1), .ref (ad 22)]) hx hb hml hown hts hK hE (fun _ h => h) hP hS ok_Pla_onBothSides st_Pla_onBothSides u_231 (c_Pla_onBothSides l D cI cZ ad A adK adV hDw v8 w29_1 t12 v13 h_v13) (by decide) rfl hl.1 rfl (Nat.le_of_ble_eq_true rfl) d_Pla_measureQuarters_117 ⟨Nat.le_refl _, Nat.le_refl _⟩) (fun _ h => h) hS (fun H locs hP hS => ?_)
          refine lv_lor hx hb d_Pla_measureQuarters_120 ?_
          obtain ⟨t14, e_t14, hB⟩ := xo_nm_e hB
          refine xk_put (C := R_Pla) (T := F_Pla) (N := 9) (ty := .long) hx hb hts i_Pla t_Pla t_Pla_ok n_Pla hown hK hP (hDw _) hS 22 xw_C_at_22 rfl 2 (by decide) u_129 rfl (by decide +kernel) rfl rfl (Nat.le_of_ble_eq_true rfl) (xw_C_put_22_2 _) d_Pla_measureQuarters_121 (fun H locs hP hS => ?_)
          replace hP : va_P D classes (xw_C ad cI cZ t14) H := by rw [e_t14]; exact hP
          clear e_t14
          obtain ⟨v15, e_v15, hB⟩ := xo_nm_e hB
          refine lv_iinc (v := v15) (lv' := [(1, .int v15), (4, .long v8), (3, .int v5), (2, .int v4), (0, .ref (ad 22))]) hx hb d_Pla_measureQuarters_124 hl (k := 4) rfl (by rw [e_v15]; rfl) (by decide) rfl (fun ls hl => ?_)
          clear e_v15
          refine lv_goto (tgt := 29) hx hb d_Pla_measureQuarters_127 (by decide) ?_
          have q9 := Option.some.inj hB
          subst q9
          exact ih _ _ _ (xo_elL hL) kx0 _ _ _ hP hS (lv_sub hl [4, 0] rfl)
    obtain ⟨y29, hL29, hF⟩ := xo_ob hF
    refine lp29 1000000 (0 : Int32) t2 y29 hL29 ?_ _ _ _ hP hS (lv_sub hl [1, 0] rfl)
    intro t3 ey H locs ls hP hS hl
    subst ey
    have q9 := Option.some.inj hF
    subst q9
    exact hret 130 _ _ _ d_Pla_measureQuarters_130 hP hS
  refine lv_aload_n hx hb d_Pla_measureQuarters_0 rfl (lv_at hl 0 rfl) ?_
  refine lv_aload_n hx hb d_Pla_measureQuarters_1 rfl (lv_at hl 0 rfl) ?_
  refine xk_get (C := R_Pla) (T := F_Pla) (N := 9) hx hb hts i_Pla hown hK hP 22 xw_C_at_22 rfl 0 (by decide) u_125 rfl d_Pla_measureQuarters_2 ?_
  refine xk_get (C := R_Tow) (T := F_Tow) (N := 8) hx hb hts i_Tow hown hK hP 1 xw_C_at_1 rfl 4 (by decide) u_90 rfl d_Pla_measureQuarters_5 ?_
  refine lv_if_ne (tgt := 15) hx hb d_Pla_measureQuarters_8 (by decide) (fun c_18 => ?_) (fun c_18 => ?_)
  · replace hF := xo_if_f c_18 hF
    refine lv_lconst (v := (0 : Int64)) hx hb d_Pla_measureQuarters_15 (by decide) ?_
    exact mg16 _ _ hF _ _ _ hP hS (lv_sub hl [0] rfl)
  · replace hF := xo_if_t c_18 hF
    refine lv_lconst (v := (1 : Int64)) hx hb d_Pla_measureQuarters_11 (by decide) ?_
    refine lv_goto (tgt := 16) hx hb d_Pla_measureQuarters_12 (by decide) ?_
    exact mg16 _ _ hF _ _ _ hP hS (lv_sub hl [0] rfl)
set_option maxHeartbeats 4000000 in
set_option maxRecDepth 100000 in
theorem c_Pla_measure (l : Launch) (D : va_G) (cI cZ : ClassId) (ad : Nat → Nat) (A : Nat → Prop) (adK adV : Nat → Nat) (hDw : ∀ st : XS, va_D A (xw_C ad cI cZ st)) (st : XS) (st9 : XS) (hF : F_Pla_measure  st = some st9) : K_V l D cI cZ A adK adV (xw_C ad cI cZ) y_Pla_measure b_Pla_measure 1 none 4 106 [.ref (ad 22)] st st9 := by
  refine xk_startV (by decide) rfl (Nat.le_of_ble_eq_true rfl) ?_
  intro p e s m args below meth c Q ls hx hb hml hown hts hK hE hP hS hl hret
  replace hown : s.vm.findClass R_Pla = some m.cls := hown
  replace hl : lv_has ls 1 [(0, .ref (ad 22))] := hl
  unfold F_Pla_measure at hF
  refine lv_aload_n hx hb d_Pla_measure_0 rfl (lv_at hl 0 rfl) ?_
  obtain ⟨t1, h_t1, hF⟩ := xo_ob hF
  refine xk_goV (xk_runV (As := []) (rest := []) hx hb hml hown hts hK hE (fun _ h => h) hP hS ok_Pla_measurePoints in_Pla_measurePoints u_183 (c_Pla_measurePoints l D cI cZ ad A adK adV hDw st t1 h_t1) (va_recv hK hP (ci := 1) (q0 := 22) rfl xw_C_at_22) (by decide) rfl hl.1 rfl (Nat.le_of_ble_eq_true rfl) d_Pla_measure_1 ⟨Nat.le_refl _, Nat.le_refl _⟩) (fun _ h => h) hS (fun H locs hP hS => ?_)
  refine lv_aload_n hx hb d_Pla_measure_4 rfl (lv_at hl 0 rfl) ?_
  obtain ⟨t2, h_t2, hF⟩ := xo_ob hF
  refine xk_goV (xk_runV (As := []) (rest := []) hx hb hml hown hts hK hE (fun _ h => h) hP hS ok_Pla_measureQuarters in_Pla_measureQuarters u_218 (c_Pla_measureQuarters l D cI cZ ad A adK adV hDw t1 t2 h_t2) (va_recv hK hP (ci := 1) (q0 := 22) rfl xw_C_at_22) (by decide) rfl hl.1 rfl (Nat.le_of_ble_eq_true rfl) d_Pla_measure_5 ⟨Nat.le_refl _, Nat.le_refl _⟩) (fun _ h => h) hS (fun H locs hP hS => ?_)
  have q9 := Option.some.inj hF
  subst q9
  exact hret 8 _ _ _ d_Pla_measure_8 hP hS
set_option maxHeartbeats 4000000 in
set_option maxRecDepth 100000 in
theorem c_Pla_isSquare (l : Launch) (D : va_G) (cI cZ : ClassId) (ad : Nat → Nat) (A : Nat → Prop) (adK adV : Nat → Nat) (hDw : ∀ st : XS, va_D A (xw_C ad cI cZ st)) (x1 : Int32) (st : XS) (r9 : Int32) (hF : F_Pla_isSquare x1 st = some r9) : K_I l D cI cZ A adK adV (xw_C ad cI cZ) y_Pla_isSquare b_Pla_isSquare 2 (some .boolean) 1 20 [.ref (ad 22), .int x1] st r9 st := by
  refine xk_startI (by decide) .boolean rfl (Nat.le_of_ble_eq_true rfl) ?_
  intro p e s m args below meth c Q ls hx hb hml hown hts hK hE hP hS hl hret
  replace hown : s.vm.findClass R_Pla = some m.cls := hown
  replace hl : lv_has ls 2 [(0, .ref (ad 22)), (1, .int x1)] := hl
  unfold F_Pla_isSquare at hF
  refine lv_aload_n hx hb d_Pla_isSquare_0 rfl (lv_at hl 0 rfl) ?_
  refine xk_get (C := R_Pla) (T := F_Pla) (N := 9) hx hb hts i_Pla hown hK hP 22 xw_C_at_22 rfl 7 (by decide) u_135 rfl d_Pla_isSquare_1 ?_
  refine lv_iload_n hx hb d_Pla_isSquare_4 rfl (lv_at hl 1 rfl) ?_
  obtain ⟨v1, h_v1, hF⟩ := xo_ob hF
  refine xk_iald hx hb hK hP 26 xw_C_at_26 h_v1 d_Pla_isSquare_5 ?_
  obtain ⟨v2, h_v2, hF⟩ := xo_ob hF
  refine xk_goI (xk_runS (As := [.int v1]) (rest := []) hx hb hml hown hts hK hE (fun _ h => h) hP hS ok_Int_bitCount st_Int_bitCount u_447 (c_Int_bitCount l D cI cZ (xw_C ad cI cZ) A adK adV v1 st v2 h_v2) (by decide) rfl hl.1 rfl (Nat.le_of_ble_eq_true rfl) d_Pla_isSquare_6 ⟨Nat.le_refl _, Nat.le_refl _⟩) (fun _ h => h) hS (fun H locs hP hS => ?_)
  refine lv_iconst (v := (3 : Int32)) hx hb d_Pla_isSquare_9 (by decide) ?_
  refine lv_icmp_lt (tgt := 17) hx hb d_Pla_isSquare_10 (by decide) (fun c_82 => ?_) (fun c_82 => ?_)
  · replace hF := xo_if_t c_82 hF
    refine lv_iconst (v := (0 : Int32)) hx hb d_Pla_isSquare_17 (by decide) ?_
    have q9 := Option.some.inj hF
    subst q9
    exact hret 18 _ _ _ d_Pla_isSquare_18 rfl hP hS
  · replace hF := xo_if_f c_82 hF
    refine lv_iconst (v := (1 : Int32)) hx hb d_Pla_isSquare_13 (by decide) ?_
    refine lv_goto (tgt := 18) hx hb d_Pla_isSquare_14 (by decide) ?_
    have q9 := Option.some.inj hF
    subst q9
    exact hret 18 _ _ _ d_Pla_isSquare_18 rfl hP hS
set_option maxHeartbeats 4000000 in
set_option maxRecDepth 100000 in
theorem c_Pla_lampsAt (l : Launch) (D : va_G) (cI cZ : ClassId) (ad : Nat → Nat) (A : Nat → Prop) (adK adV : Nat → Nat) (hDw : ∀ st : XS, va_D A (xw_C ad cI cZ st)) (x1 : Int32) (x2 : Int32) (st : XS) (r9 : Int32) (hF : F_Pla_lampsAt x1 x2 st = some r9) : K_I l D cI cZ A adK adV (xw_C ad cI cZ) y_Pla_lampsAt b_Pla_lampsAt 6 (some .int) 0 0 [.ref (ad 22), .int x1, .int x2] st r9 st := by
  refine xk_startI (by decide) .int rfl (Nat.le_of_ble_eq_true rfl) ?_
  intro p e s m args below meth c Q ls hx hb hml hown hts hK hE hP hS hl hret
  replace hown : s.vm.findClass R_Pla = some m.cls := hown
  replace hl : lv_has ls 6 [(0, .ref (ad 22)), (1, .int x1), (2, .int x2)] := hl
  unfold F_Pla_lampsAt at hF
  refine lv_iconst (v := (1 : Int32)) hx hb d_Pla_lampsAt_0 (by decide) ?_
  refine lv_istore_n (lv' := [(3, .int (1 : Int32)), (0, .ref (ad 22)), (1, .int x1), (2, .int x2)]) hx hb d_Pla_lampsAt_1 rfl hl (by decide) rfl (fun ls hl => ?_)
  refine lv_iconst (v := (2 : Int32)) hx hb d_Pla_lampsAt_2 (by decide) ?_
  refine lv_iload_n hx hb d_Pla_lampsAt_3 rfl (lv_at hl 0 rfl) ?_
  refine lv_imul hx hb d_Pla_lampsAt_4 ?_
  refine lv_topi (fun v1 e_v1 => ?_)
  replace hF := xo_nm_u hF e_v1
  clear e_v1
  refine lv_istore (lv' := [(4, .int v1), (3, .int (1 : Int32)), (0, .ref (ad 22)), (1, .int x1), (2, .int x2)]) hx hb d_Pla_lampsAt_5 hl (by decide) rfl (fun ls hl => ?_)
  refine lv_iconst (v := (0 : Int32)) hx hb d_Pla_lampsAt_7 (by decide) ?_
  refine lv_istore (lv' := [(5, .int (0 : Int32)), (4, .int v1), (3, .int (1 : Int32)), (0, .ref (ad 22)), (1, .int x1), (2, .int x2)]) hx hb d_Pla_lampsAt_8 hl (by decide) rfl (fun ls hl => ?_)
  refine lv_aload_n hx hb d_Pla_lampsAt_10 rfl (lv_at hl 3 rfl) ?_
  refine xk_get (C := R_Pla) (T := F_Pla) (N := 9) hx hb hts i_Pla hown hK hP 22 xw_C_at_22 rfl 0 (by decide) u_125 rfl d_Pla_lampsAt_11 ?_
  refine xk_get (C := R_Tow) (T := F_Tow) (N := 8) hx hb hts i_Tow hown hK hP 1 xw_C_at_1 rfl 0 (by decide) u_79 rfl d_Pla_lampsAt_14 ?_
  refine lv_iload_n hx hb d_Pla_lampsAt_17 rfl (lv_at hl 4 rfl) ?_
  obtain ⟨v2, h_v2, hF⟩ := xo_ob hF
  refine xk_iald hx hb hK hP 2 xw_C_at_2 h_v2 d_Pla_lampsAt_18 ?_
  by_cases c_83 : v2 = (1 : Int32)
  · replace hF := xo_if_t c_83 hF
    refine lv_tableIn (off := 33) (tgt := 52) hx hb d_Pla_lampsAt_19 (by rw [c_83]; decide) (by rw [c_83]; decide) (by rw [c_83]; decide) (by decide) ?_
    refine lv_iload hx hb d_Pla_lampsAt_52 (lv_at hl 1 rfl) ?_
    have q9 := Option.some.inj hF
    subst q9
    exact hret 54 _ _ _ d_Pla_lampsAt_54 rfl hP hS
  · replace hF := xo_if_f c_83 hF
    by_cases c_84 : v2 = (2 : Int32)
    · replace hF := xo_if_t c_84 hF
      refine lv_tableIn (off := 36) (tgt := 55) hx hb d_Pla_lampsAt_19 (by rw [c_84]; decide) (by rw [c_84]; decide) (by rw [c_84]; decide) (by decide) ?_
      refine lv_iload hx hb d_Pla_lampsAt_55 (lv_at hl 0 rfl) ?_
      have q9 := Option.some.inj hF
      subst q9
      exact hret 57 _ _ _ d_Pla_lampsAt_57 rfl hP hS
    · replace hF := xo_if_f c_84 hF
      by_cases c_85 : v2 = (3 : Int32)
      · replace hF := xo_if_t c_85 hF
        refine lv_tableIn (off := 39) (tgt := 58) hx hb d_Pla_lampsAt_19 (by rw [c_85]; decide) (by rw [c_85]; decide) (by rw [c_85]; decide) (by decide) ?_
        refine lv_iload_n hx hb d_Pla_lampsAt_58 rfl (lv_at hl 5 rfl) ?_
        refine lv_if_eq (tgt := 69) hx hb d_Pla_lampsAt_59 (by decide) (fun c_86 => ?_) (fun c_86 => ?_)
        · replace hF := xo_if_t c_86 hF
          refine lv_iload hx hb d_Pla_lampsAt_69 (lv_at hl 1 rfl) ?_
          have q9 := Option.some.inj hF
          subst q9
          exact hret 71 _ _ _ d_Pla_lampsAt_71 rfl hP hS
        · replace hF := xo_if_f c_86 hF
          refine lv_iload hx hb d_Pla_lampsAt_62 (lv_at hl 1 rfl) ?_
          refine lv_iconst (v := (5 : Int32)) hx hb d_Pla_lampsAt_64 (by decide) ?_
          refine lv_iadd hx hb d_Pla_lampsAt_65 ?_
          refine lv_goto (tgt := 71) hx hb d_Pla_lampsAt_66 (by decide) ?_
          have q9 := Option.some.inj hF
          subst q9
          exact hret 71 _ _ _ d_Pla_lampsAt_71 rfl hP hS
      · replace hF := xo_if_f c_85 hF
        by_cases c_87 : v2 = (4 : Int32)
        · replace hF := xo_if_t c_87 hF
          refine lv_tableIn (off := 53) (tgt := 72) hx hb d_Pla_lampsAt_19 (by rw [c_87]; decide) (by rw [c_87]; decide) (by rw [c_87]; decide) (by decide) ?_
          refine lv_iload_n hx hb d_Pla_lampsAt_72 rfl (lv_at hl 2 rfl) ?_
          refine lv_iload_n hx hb d_Pla_lampsAt_73 rfl (lv_at hl 4 rfl) ?_
          refine lv_iadd hx hb d_Pla_lampsAt_74 ?_
          have q9 := Option.some.inj hF
          subst q9
          exact hret 75 _ _ _ d_Pla_lampsAt_75 rfl hP hS
        · replace hF := xo_if_f c_87 hF
          by_cases c_88 : v2 = (5 : Int32)
          · replace hF := xo_if_t c_88 hF
            refine lv_tableIn (off := 57) (tgt := 76) hx hb d_Pla_lampsAt_19 (by rw [c_88]; decide) (by rw [c_88]; decide) (by rw [c_88]; decide) (by decide) ?_
            refine lv_iload_n hx hb d_Pla_lampsAt_76 rfl (lv_at hl 4 rfl) ?_
            refine lv_aload_n hx hb d_Pla_lampsAt_77 rfl (lv_at hl 3 rfl) ?_
            refine xk_get (C := R_Pla) (T := F_Pla) (N := 9) hx hb hts i_Pla hown hK hP 22 xw_C_at_22 rfl 0 (by decide) u_125 rfl d_Pla_lampsAt_78 ?_
            refine xk_get (C := R_Tow) (T := F_Tow) (N := 8) hx hb hts i_Tow hown hK hP 1 xw_C_at_1 rfl 4 (by decide) u_90 rfl d_Pla_lampsAt_81 ?_
            refine lv_iconst (v := (1 : Int32)) hx hb d_Pla_lampsAt_84 (by decide) ?_
            refine lv_isub hx hb d_Pla_lampsAt_85 ?_
            refine lv_icmp_ne (tgt := 97) hx hb d_Pla_lampsAt_86 (by decide) (fun c_89 => ?_) (fun c_89 => ?_)
            · replace hF := xo_if_f c_89 hF
              refine lv_iload hx hb d_Pla_lampsAt_97 (lv_at hl 0 rfl) ?_
              have q9 := Option.some.inj hF
              subst q9
              exact hret 99 _ _ _ d_Pla_lampsAt_99 rfl hP hS
            · replace hF := xo_if_t c_89 hF
              refine lv_iload hx hb d_Pla_lampsAt_89 (lv_at hl 0 rfl) ?_
              refine lv_bipush (v := (7 : Int32)) hx hb d_Pla_lampsAt_91 (by decide) ?_
              refine lv_iadd hx hb d_Pla_lampsAt_93 ?_
              refine lv_goto (tgt := 99) hx hb d_Pla_lampsAt_94 (by decide) ?_
              have q9 := Option.some.inj hF
              subst q9
              exact hret 99 _ _ _ d_Pla_lampsAt_99 rfl hP hS
          · replace hF := xo_if_f c_88 hF
            refine lv_tableOut (tgt := 100) hx hb d_Pla_lampsAt_19 (xk_out_1_5 c_83 c_84 c_85 c_87 c_88) (by decide) ?_
            refine lv_iload_n hx hb d_Pla_lampsAt_100 rfl (lv_at hl 2 rfl) ?_
            have q9 := Option.some.inj hF
            subst q9
            exact hret 101 _ _ _ d_Pla_lampsAt_101 rfl hP hS
set_option maxHeartbeats 4000000 in
set_option maxRecDepth 100000 in
theorem c_Pla_lampsFrom (l : Launch) (D : va_G) (cI cZ : ClassId) (ad : Nat → Nat) (A : Nat → Prop) (adK adV : Nat → Nat) (hDw : ∀ st : XS, va_D A (xw_C ad cI cZ st)) (x1 : Int32) (st : XS) (r9 : Int32) (hF : F_Pla_lampsFrom x1 st = some r9) : K_I l D cI cZ A adK adV (xw_C ad cI cZ) y_Pla_lampsFrom b_Pla_lampsFrom 4 (some .int) 2 41 [.ref (ad 22), .int x1] st r9 st := by
  refine xk_startI (by decide) .int rfl (Nat.le_of_ble_eq_true rfl) ?_
  intro p e s m args below meth c Q ls hx hb hml hown hts hK hE hP hS hl hret
  replace hown : s.vm.findClass R_Pla = some m.cls := hown
  replace hl : lv_has ls 4 [(0, .ref (ad 22)), (1, .int x1)] := hl
  unfold F_Pla_lampsFrom at hF
  refine lv_iconst (v := (0 : Int32)) hx hb d_Pla_lampsFrom_0 (by decide) ?_
  refine lv_istore_n (lv' := [(2, .int (0 : Int32)), (0, .ref (ad 22)), (1, .int x1)]) hx hb d_Pla_lampsFrom_1 rfl hl (by decide) rfl (fun ls hl => ?_)
  refine lv_iconst (v := (0 : Int32)) hx hb d_Pla_lampsFrom_2 (by decide) ?_
  refine lv_istore_n (lv' := [(3, .int (0 : Int32)), (2, .int (0 : Int32)), (0, .ref (ad 22)), (1, .int x1)]) hx hb d_Pla_lampsFrom_3 rfl hl (by decide) rfl (fun ls hl => ?_)
  have lp4 : ∀ (n : Nat) (w4_2 : Int32) (w4_3 : Int32) (y : Int32), xo_lp (fun q : (Int32 × Int32) => F_Pla_lampsFrom_b4 x1 st q.1 q.2) n (w4_2, w4_3) = some y → (∀ (e2 : Int32), e2 = y → ∀ (H : Heap) (locs : List Loc) (ls : Array Slot), va_P D classes (xw_C ad cI cZ st) H → va_S A s.heap H locs → lv_has ls 4 [(2, .int e2)] → W p l e (xk_rm 2 41) s m args below meth c H locs 0 0 Q (F0 m 44 ls [])) → ∀ (H : Heap) (locs : List Loc) (ls : Array Slot), va_P D classes (xw_C ad cI cZ st) H → va_S A s.heap H locs → lv_has ls 4 [(0, .ref (ad 22)), (1, .int x1), (2, .int w4_2), (3, .int w4_3)] → W p l e (xk_rm 2 41) s m args below meth c H locs 0 0 Q (F0 m 4 ls []) := by
    intro n
    induction n with
    | zero =>
      intro w4_2 w4_3 y hL
      exact nomatch (show (none : Option _) = some y from hL)
    | succ n ih =>
      intro w4_2 w4_3 y hL kx0 H locs ls hP hS hl
      obtain ⟨z9, hB, hL⟩ := xo_lp_s hL
      replace hB : F_Pla_lampsFrom_b4 x1 st w4_2 w4_3 = some z9 := hB
      unfold F_Pla_lampsFrom_b4 at hB
      refine lv_iload_n hx hb d_Pla_lampsFrom_4 rfl (lv_at hl 3 rfl) ?_
      refine lv_aload_n hx hb d_Pla_lampsFrom_5 rfl (lv_at hl 0 rfl) ?_
      refine xk_get (C := R_Pla) (T := F_Pla) (N := 9) hx hb hts i_Pla hown hK hP 22 xw_C_at_22 rfl 3 (by decide) u_130 rfl d_Pla_lampsFrom_6 ?_
      refine lv_icmp_ge (tgt := 44) hx hb d_Pla_lampsFrom_9 (by decide) (fun c_90 => ?_) (fun c_90 => ?_)
      · replace hB := xo_if_t c_90 hB
        have q9 := Option.some.inj hB
        subst q9
        replace hL := Option.some.inj (xo_elR hL)
        subst hL
        exact kx0 _ rfl _ _ _ hP hS (lv_sub hl [2] rfl)
      · replace hB := xo_if_f c_90 hB
        refine lv_aload_n hx hb d_Pla_lampsFrom_12 rfl (lv_at hl 0 rfl) ?_
        refine xk_get (C := R_Pla) (T := F_Pla) (N := 9) hx hb hts i_Pla hown hK hP 22 xw_C_at_22 rfl 7 (by decide) u_135 rfl d_Pla_lampsFrom_13 ?_
        refine lv_iload_n hx hb d_Pla_lampsFrom_16 rfl (lv_at hl 3 rfl) ?_
        obtain ⟨v2, h_v2, hB⟩ := xo_ob hB
        refine xk_iald hx hb hK hP 26 xw_C_at_26 h_v2 d_Pla_lampsFrom_17 ?_
        refine lv_iload_n hx hb d_Pla_lampsFrom_18 rfl (lv_at hl 1 rfl) ?_
        refine lv_ishr hx hb d_Pla_lampsFrom_19 ?_
        refine lv_iconst (v := (1 : Int32)) hx hb d_Pla_lampsFrom_20 (by decide) ?_
        refine lv_iand hx hb d_Pla_lampsFrom_21 ?_
        refine lv_if_eq (tgt := 38) hx hb d_Pla_lampsFrom_22 (by decide) (fun c_91 => ?_) (fun c_91 => ?_)
        · replace hB := xo_if_t c_91 hB
          obtain ⟨v3, e_v3, hB⟩ := xo_nm_e hB
          refine lv_iinc (v := v3) (lv' := [(3, .int v3), (0, .ref (ad 22)), (1, .int x1), (2, .int w4_2)]) hx hb d_Pla_lampsFrom_38 hl (k := 3) rfl (by rw [e_v3]; rfl) (by decide) rfl (fun ls hl => ?_)
          clear e_v3
          refine lv_goto (tgt := 4) hx hb d_Pla_lampsFrom_41 (by decide) ?_
          have q9 := Option.some.inj hB
          subst q9
          exact ih _ _ _ (xo_elL hL) kx0 _ _ _ hP hS (lv_sub hl [1, 2, 3, 0] rfl)
        · replace hB := xo_if_f c_91 hB
          refine lv_iload_n hx hb d_Pla_lampsFrom_25 rfl (lv_at hl 2 rfl) ?_
          refine lv_aload_n hx hb d_Pla_lampsFrom_26 rfl (lv_at hl 0 rfl) ?_
          refine lv_iload_n hx hb d_Pla_lampsFrom_27 rfl (lv_at hl 1 rfl) ?_
          refine lv_aload_n hx hb d_Pla_lampsFrom_28 rfl (lv_at hl 0 rfl) ?_
          refine lv_iload_n hx hb d_Pla_lampsFrom_29 rfl (lv_at hl 3 rfl) ?_
          obtain ⟨v4, h_v4, hB⟩ := xo_ob hB
          refine xk_goI (xk_runV (As := [.int w4_3]) (rest := [.int x1, .ref (ad 22), .int w4_2]) hx hb hml hown hts hK hE (fun _ h => h) hP hS ok_Pla_isSquare in_Pla_isSquare u_443 (c_Pla_isSquare l D cI cZ ad A adK adV hDw w4_3 st v4 h_v4) (va_recv hK hP (ci := 1) (q0 := 22) rfl xw_C_at_22) (by decide) rfl hl.1 rfl (Nat.le_of_ble_eq_true rfl) d_Pla_lampsFrom_30 ⟨Nat.le_refl _, Nat.le_refl _⟩) (fun _ h => h) hS (fun H locs hP hS => ?_)
          obtain ⟨v5, h_v5, hB⟩ := xo_ob hB
          refine xk_goI (xk_runV (As := [.int x1, .int v4]) (rest := [.int w4_2]) hx hb hml hown hts hK hE (fun _ h => h) hP hS ok_Pla_lampsAt in_Pla_lampsAt u_453 (c_Pla_lampsAt l D cI cZ ad A adK adV hDw x1 v4 st v5 h_v5) (va_recv hK hP (ci := 1) (q0 := 22) rfl xw_C_at_22) (by decide) rfl hl.1 rfl (Nat.le_of_ble_eq_true rfl) d_Pla_lampsFrom_33 ⟨Nat.le_refl _, Nat.le_refl _⟩) (fun _ h => h) hS (fun H locs hP hS => ?_)
          refine lv_iadd hx hb d_Pla_lampsFrom_36 ?_
          refine lv_topi (fun v6 e_v6 => ?_)
          replace hB := xo_nm_u hB e_v6
          clear e_v6
          refine lv_istore_n (lv' := [(2, .int v6), (0, .ref (ad 22)), (1, .int x1), (3, .int w4_3)]) hx hb d_Pla_lampsFrom_37 rfl hl (by decide) rfl (fun ls hl => ?_)
          obtain ⟨v7, e_v7, hB⟩ := xo_nm_e hB
          refine lv_iinc (v := v7) (lv' := [(3, .int v7), (2, .int v6), (0, .ref (ad 22)), (1, .int x1)]) hx hb d_Pla_lampsFrom_38 hl (k := 3) rfl (by rw [e_v7]; rfl) (by decide) rfl (fun ls hl => ?_)
          clear e_v7
          refine lv_goto (tgt := 4) hx hb d_Pla_lampsFrom_41 (by decide) ?_
          have q9 := Option.some.inj hB
          subst q9
          exact ih _ _ _ (xo_elL hL) kx0 _ _ _ hP hS (lv_sub hl [2, 3, 1, 0] rfl)
  obtain ⟨y4, hL4, hF⟩ := xo_ob hF
  refine lp4 1000000 (0 : Int32) (0 : Int32) y4 hL4 ?_ _ _ _ hP hS (lv_sub hl [2, 3, 1, 0] rfl)
  intro o1 ey H locs ls hP hS hl
  subst ey
  refine lv_iload_n hx hb d_Pla_lampsFrom_44 rfl (lv_at hl 0 rfl) ?_
  have q9 := Option.some.inj hF
  subst q9
  exact hret 45 _ _ _ d_Pla_lampsFrom_45 rfl hP hS
set_option maxHeartbeats 4000000 in
set_option maxRecDepth 100000 in
theorem c_All_has (l : Launch) (D : va_G) (cI cZ : ClassId) (ad : Nat → Nat) (A : Nat → Prop) (adK adV : Nat → Nat) (hDw : ∀ st : XS, va_D A (xw_C ad cI cZ st)) (x0 : Int64) (x2 : Int32) (st : XS) (r9 : Int32) (hF : F_All_has x0 x2 = some r9) : K_I l D cI cZ A adK adV (xw_C ad cI cZ) y_All_has b_All_has 3 (some .boolean) 0 0 [.long x0, .int x2] st r9 st := by
  refine xk_startI (by decide) .boolean rfl (Nat.le_of_ble_eq_true rfl) ?_
  intro p e s m args below meth c Q ls hx hb hml hown hts hK hE hP hS hl hret
  replace hown : s.vm.findClass R_All = some m.cls := hown
  replace hl : lv_has ls 3 [(0, .long x0), (2, .int x2)] := hl
  unfold F_All_has at hF
  refine lv_iload_n hx hb d_All_has_0 rfl (lv_at hl 1 rfl) ?_
  refine lv_if_lt (tgt := 24) hx hb d_All_has_1 (by decide) (fun c_113 => ?_) (fun c_113 => ?_)
  · replace hF := xo_if_t c_113 hF
    refine lv_iconst (v := (0 : Int32)) hx hb d_All_has_24 (by decide) ?_
    have q9 := Option.some.inj hF
    subst q9
    exact hret 25 _ _ _ d_All_has_25 rfl hP hS
  · replace hF := xo_if_f c_113 hF
    refine lv_iload_n hx hb d_All_has_4 rfl (lv_at hl 1 rfl) ?_
    refine lv_bipush (v := (64 : Int32)) hx hb d_All_has_5 (by decide) ?_
    refine lv_icmp_ge (tgt := 24) hx hb d_All_has_7 (by decide) (fun c_114 => ?_) (fun c_114 => ?_)
    · replace hF := xo_if_t c_114 hF
      refine lv_iconst (v := (0 : Int32)) hx hb d_All_has_24 (by decide) ?_
      have q9 := Option.some.inj hF
      subst q9
      exact hret 25 _ _ _ d_All_has_25 rfl hP hS
    · replace hF := xo_if_f c_114 hF
      refine lv_lload_n hx hb d_All_has_10 rfl (lv_at hl 0 rfl) ?_
      refine lv_iload_n hx hb d_All_has_11 rfl (lv_at hl 1 rfl) ?_
      refine lv_lshr (v := (x0 >>> (x2.toInt64 &&& 63))) hx hb d_All_has_12 rfl ?_
      refine lv_lconst (v := (1 : Int64)) hx hb d_All_has_13 (by decide) ?_
      refine lv_land hx hb d_All_has_14 ?_
      refine lv_lconst (v := (0 : Int64)) hx hb d_All_has_15 (by decide) ?_
      refine W.lcmp hx hb d_All_has_16 ?_
      refine lv_if_eq (tgt := 24) hx hb d_All_has_17 (by decide) (fun c_115 => ?_) (fun c_115 => ?_)
      · replace hF := xo_if_t c_115 hF
        refine lv_iconst (v := (0 : Int32)) hx hb d_All_has_24 (by decide) ?_
        have q9 := Option.some.inj hF
        subst q9
        exact hret 25 _ _ _ d_All_has_25 rfl hP hS
      · replace hF := xo_if_f c_115 hF
        refine lv_iconst (v := (1 : Int32)) hx hb d_All_has_20 (by decide) ?_
        refine lv_goto (tgt := 25) hx hb d_All_has_21 (by decide) ?_
        have q9 := Option.some.inj hF
        subst q9
        exact hret 25 _ _ _ d_All_has_25 rfl hP hS
set_option maxHeartbeats 4000000 in
set_option maxRecDepth 100000 in
theorem c_Pla_hasQuarter (l : Launch) (D : va_G) (cI cZ : ClassId) (ad : Nat → Nat) (A : Nat → Prop) (adK adV : Nat → Nat) (hDw : ∀ st : XS, va_D A (xw_C ad cI cZ st)) (x1 : Int32) (st : XS) (r9 : Int32) (hF : F_Pla_hasQuarter x1 st = some r9) : K_I l D cI cZ A adK adV (xw_C ad cI cZ) y_Pla_hasQuarter b_Pla_hasQuarter 2 (some .boolean) 1 22 [.ref (ad 22), .int x1] st r9 st := by
  refine xk_startI (by decide) .boolean rfl (Nat.le_of_ble_eq_true rfl) ?_
  intro p e s m args below meth c Q ls hx hb hml hown hts hK hE hP hS hl hret
  replace hown : s.vm.findClass R_Pla = some m.cls := hown
  replace hl : lv_has ls 2 [(0, .ref (ad 22)), (1, .int x1)] := hl
  unfold F_Pla_hasQuarter at hF
  refine lv_aload_n hx hb d_Pla_hasQuarter_0 rfl (lv_at hl 0 rfl) ?_
  refine xk_get (C := R_Pla) (T := F_Pla) (N := 9) hx hb hts i_Pla hown hK hP 22 xw_C_at_22 rfl 1 (by decide) u_126 rfl d_Pla_hasQuarter_1 ?_
  refine lv_iload_n hx hb d_Pla_hasQuarter_4 rfl (lv_at hl 1 rfl) ?_
  obtain ⟨v1, h_v1, hF⟩ := xo_ob hF
  refine xk_goI (xk_runN (As := [.long (st.2 0), .int x1]) (rest := []) hx hb hml hown hts hK hE (fun _ h => h) hP hS ok_All_has st_All_has hE.2.2.2.2 (c_All_has l D cI cZ ad A adK adV hDw (st.2 0) x1 st v1 h_v1) (by decide) rfl hl.1 rfl (Nat.le_of_ble_eq_true rfl) d_Pla_hasQuarter_5 ⟨Nat.le_refl _, Nat.le_refl _⟩) (fun _ h => h) hS (fun H locs hP hS => ?_)
  obtain ⟨v2, h_v2, hF⟩ := xo_ob hF
  obtain ⟨e_v2, h_v2⟩ := xo_cb_e h_v2
  refine W.eq (g2 := F0 m 8 _ [.int v2]) (by rw [e_v2]) ?_
  have q9 := Option.some.inj hF
  subst q9
  exact hret 8 _ _ _ d_Pla_hasQuarter_8 (by rcases h_v2 with h | h <;> rw [h] <;> rfl) hP hS
set_option maxHeartbeats 4000000 in
set_option maxRecDepth 100000 in
theorem c_Pla_cornersOf (l : Launch) (D : va_G) (cI cZ : ClassId) (ad : Nat → Nat) (A : Nat → Prop) (adK adV : Nat → Nat) (hDw : ∀ st : XS, va_D A (xw_C ad cI cZ st)) (x1 : Int32) (st : XS) (r9 : Int32) (hF : F_Pla_cornersOf x1 st = some r9) : K_I l D cI cZ A adK adV (xw_C ad cI cZ) y_Pla_cornersOf b_Pla_cornersOf 4 (some .int) 0 0 [.ref (ad 22), .int x1] st r9 st := by
  refine xk_startI (by decide) .int rfl (Nat.le_of_ble_eq_true rfl) ?_
  intro p e s m args below meth c Q ls hx hb hml hown hts hK hE hP hS hl hret
  replace hown : s.vm.findClass R_Pla = some m.cls := hown
  replace hl : lv_has ls 4 [(0, .ref (ad 22)), (1, .int x1)] := hl
  unfold F_Pla_cornersOf at hF
  refine lv_iconst (v := (0 : Int32)) hx hb d_Pla_cornersOf_0 (by decide) ?_
  refine lv_istore_n (lv' := [(2, .int (0 : Int32)), (0, .ref (ad 22)), (1, .int x1)]) hx hb d_Pla_cornersOf_1 rfl hl (by decide) rfl (fun ls hl => ?_)
  refine lv_iconst (v := (0 : Int32)) hx hb d_Pla_cornersOf_2 (by decide) ?_
  refine lv_istore_n (lv' := [(3, .int (0 : Int32)), (2, .int (0 : Int32)), (0, .ref (ad 22)), (1, .int x1)]) hx hb d_Pla_cornersOf_3 rfl hl (by decide) rfl (fun ls hl => ?_)
  have lp4 : ∀ (n : Nat) (w4_2 : Int32) (w4_3 : Int32) (y : Int32), xo_lp (fun q : (Int32 × Int32) => F_Pla_cornersOf_b4 x1 st q.1 q.2) n (w4_2, w4_3) = some y → (∀ (e2 : Int32), e2 = y → ∀ (H : Heap) (locs : List Loc) (ls : Array Slot), va_P D classes (xw_C ad cI cZ st) H → va_S A s.heap H locs → lv_has ls 4 [(2, .int e2)] → W p l e (xk_rm 0 0) s m args below meth c H locs 0 0 Q (F0 m 40 ls [])) → ∀ (H : Heap) (locs : List Loc) (ls : Array Slot), va_P D classes (xw_C ad cI cZ st) H → va_S A s.heap H locs → lv_has ls 4 [(0, .ref (ad 22)), (1, .int x1), (2, .int w4_2), (3, .int w4_3)] → W p l e (xk_rm 0 0) s m args below meth c H locs 0 0 Q (F0 m 4 ls []) := by
    intro n
    induction n with
    | zero =>
      intro w4_2 w4_3 y hL
      exact nomatch (show (none : Option _) = some y from hL)
    | succ n ih =>
      intro w4_2 w4_3 y hL kx0 H locs ls hP hS hl
      obtain ⟨z9, hB, hL⟩ := xo_lp_s hL
      replace hB : F_Pla_cornersOf_b4 x1 st w4_2 w4_3 = some z9 := hB
      unfold F_Pla_cornersOf_b4 at hB
      refine lv_iload_n hx hb d_Pla_cornersOf_4 rfl (lv_at hl 3 rfl) ?_
      refine lv_aload_n hx hb d_Pla_cornersOf_5 rfl (lv_at hl 0 rfl) ?_
      refine xk_get (C := R_Pla) (T := F_Pla) (N := 9) hx hb hts i_Pla hown hK hP 22 xw_C_at_22 rfl 3 (by decide) u_130 rfl d_Pla_cornersOf_6 ?_
      refine lv_icmp_ge (tgt := 40) hx hb d_Pla_cornersOf_9 (by decide) (fun c_116 => ?_) (fun c_116 => ?_)
      · replace hB := xo_if_t c_116 hB
        have q9 := Option.some.inj hB
        subst q9
        replace hL := Option.some.inj (xo_elR hL)
        subst hL
        exact kx0 _ rfl _ _ _ hP hS (lv_sub hl [2] rfl)
      · replace hB := xo_if_f c_116 hB
        refine lv_iload_n hx hb d_Pla_cornersOf_12 rfl (lv_at hl 1 rfl) ?_
        refine lv_aload_n hx hb d_Pla_cornersOf_13 rfl (lv_at hl 0 rfl) ?_
        refine xk_get (C := R_Pla) (T := F_Pla) (N := 9) hx hb hts i_Pla hown hK hP 22 xw_C_at_22 rfl 7 (by decide) u_135 rfl d_Pla_cornersOf_14 ?_
        refine lv_iload_n hx hb d_Pla_cornersOf_17 rfl (lv_at hl 3 rfl) ?_
        obtain ⟨v2, h_v2, hB⟩ := xo_ob hB
        refine xk_iald hx hb hK hP 26 xw_C_at_26 h_v2 d_Pla_cornersOf_18 ?_
        refine lv_iconst (v := (-1 : Int32)) hx hb d_Pla_cornersOf_19 (by decide) ?_
        refine lv_ixor hx hb d_Pla_cornersOf_20 ?_
        refine lv_iand hx hb d_Pla_cornersOf_21 ?_
        refine lv_aload_n hx hb d_Pla_cornersOf_22 rfl (lv_at hl 0 rfl) ?_
        refine xk_get (C := R_Pla) (T := F_Pla) (N := 9) hx hb hts i_Pla hown hK hP 22 xw_C_at_22 rfl 8 (by decide) u_136 rfl d_Pla_cornersOf_23 ?_
        refine lv_iload_n hx hb d_Pla_cornersOf_26 rfl (lv_at hl 3 rfl) ?_
        obtain ⟨v3, h_v3, hB⟩ := xo_ob hB
        refine xk_iald hx hb hK hP 27 xw_C_at_27 h_v3 d_Pla_cornersOf_27 ?_
        refine lv_icmp_ne (tgt := 34) hx hb d_Pla_cornersOf_28 (by decide) (fun c_117 => ?_) (fun c_117 => ?_)
        · replace hB := xo_if_f c_117 hB
          obtain ⟨v6, e_v6, hB⟩ := xo_nm_e hB
          refine lv_iinc (v := v6) (lv' := [(3, .int v6), (0, .ref (ad 22)), (1, .int x1), (2, .int w4_2)]) hx hb d_Pla_cornersOf_34 hl (k := 3) rfl (by rw [e_v6]; rfl) (by decide) rfl (fun ls hl => ?_)
          clear e_v6
          refine lv_goto (tgt := 4) hx hb d_Pla_cornersOf_37 (by decide) ?_
          have q9 := Option.some.inj hB
          subst q9
          exact ih _ _ _ (xo_elL hL) kx0 _ _ _ hP hS (lv_sub hl [1, 2, 3, 0] rfl)
        · replace hB := xo_if_t c_117 hB
          obtain ⟨v4, e_v4, hB⟩ := xo_nm_e hB
          refine lv_iinc (v := v4) (lv' := [(2, .int v4), (0, .ref (ad 22)), (1, .int x1), (3, .int w4_3)]) hx hb d_Pla_cornersOf_31 hl (k := 2) rfl (by rw [e_v4]; rfl) (by decide) rfl (fun ls hl => ?_)
          clear e_v4
          obtain ⟨v5, e_v5, hB⟩ := xo_nm_e hB
          refine lv_iinc (v := v5) (lv' := [(3, .int v5), (2, .int v4), (0, .ref (ad 22)), (1, .int x1)]) hx hb d_Pla_cornersOf_34 hl (k := 3) rfl (by rw [e_v5]; rfl) (by decide) rfl (fun ls hl => ?_)
          clear e_v5
          refine lv_goto (tgt := 4) hx hb d_Pla_cornersOf_37 (by decide) ?_
          have q9 := Option.some.inj hB
          subst q9
          exact ih _ _ _ (xo_elL hL) kx0 _ _ _ hP hS (lv_sub hl [2, 3, 1, 0] rfl)
  obtain ⟨y4, hL4, hF⟩ := xo_ob hF
  refine lp4 1000000 (0 : Int32) (0 : Int32) y4 hL4 ?_ _ _ _ hP hS (lv_sub hl [2, 3, 1, 0] rfl)
  intro o1 ey H locs ls hP hS hl
  subst ey
  refine lv_iload_n hx hb d_Pla_cornersOf_40 rfl (lv_at hl 0 rfl) ?_
  have q9 := Option.some.inj hF
  subst q9
  exact hret 41 _ _ _ d_Pla_cornersOf_41 rfl hP hS
set_option maxHeartbeats 4000000 in
set_option maxRecDepth 100000 in
theorem c_Pla_sidesOf (l : Launch) (D : va_G) (cI cZ : ClassId) (ad : Nat → Nat) (A : Nat → Prop) (adK adV : Nat → Nat) (hDw : ∀ st : XS, va_D A (xw_C ad cI cZ st)) (x1 : Int32) (st : XS) (r9 : Int32) (hF : F_Pla_sidesOf x1 st = some r9) : K_I l D cI cZ A adK adV (xw_C ad cI cZ) y_Pla_sidesOf b_Pla_sidesOf 4 (some .int) 2 43 [.ref (ad 22), .int x1] st r9 st := by
  refine xk_startI (by decide) .int rfl (Nat.le_of_ble_eq_true rfl) ?_
  intro p e s m args below meth c Q ls hx hb hml hown hts hK hE hP hS hl hret
  replace hown : s.vm.findClass R_Pla = some m.cls := hown
  replace hl : lv_has ls 4 [(0, .ref (ad 22)), (1, .int x1)] := hl
  unfold F_Pla_sidesOf at hF
  refine lv_iconst (v := (0 : Int32)) hx hb d_Pla_sidesOf_0 (by decide) ?_
  refine lv_istore_n (lv' := [(2, .int (0 : Int32)), (0, .ref (ad 22)), (1, .int x1)]) hx hb d_Pla_sidesOf_1 rfl hl (by decide) rfl (fun ls hl => ?_)
  refine lv_iconst (v := (0 : Int32)) hx hb d_Pla_sidesOf_2 (by decide) ?_
  refine lv_istore_n (lv' := [(3, .int (0 : Int32)), (2, .int (0 : Int32)), (0, .ref (ad 22)), (1, .int x1)]) hx hb d_Pla_sidesOf_3 rfl hl (by decide) rfl (fun ls hl => ?_)
  have lp4 : ∀ (n : Nat) (w4_2 : Int32) (w4_3 : Int32) (y : Int32), xo_lp (fun q : (Int32 × Int32) => F_Pla_sidesOf_b4 x1 st q.1 q.2) n (w4_2, w4_3) = some y → (∀ (e2 : Int32), e2 = y → ∀ (H : Heap) (locs : List Loc) (ls : Array Slot), va_P D classes (xw_C ad cI cZ st) H → va_S A s.heap H locs → lv_has ls 4 [(2, .int e2)] → W p l e (xk_rm 2 43) s m args below meth c H locs 0 0 Q (F0 m 36 ls [])) → ∀ (H : Heap) (locs : List Loc) (ls : Array Slot), va_P D classes (xw_C ad cI cZ st) H → va_S A s.heap H locs → lv_has ls 4 [(0, .ref (ad 22)), (1, .int x1), (2, .int w4_2), (3, .int w4_3)] → W p l e (xk_rm 2 43) s m args below meth c H locs 0 0 Q (F0 m 4 ls []) := by
    intro n
    induction n with
    | zero =>
      intro w4_2 w4_3 y hL
      exact nomatch (show (none : Option _) = some y from hL)
    | succ n ih =>
      intro w4_2 w4_3 y hL kx0 H locs ls hP hS hl
      obtain ⟨z9, hB, hL⟩ := xo_lp_s hL
      replace hB : F_Pla_sidesOf_b4 x1 st w4_2 w4_3 = some z9 := hB
      unfold F_Pla_sidesOf_b4 at hB
      refine lv_iload_n hx hb d_Pla_sidesOf_4 rfl (lv_at hl 3 rfl) ?_
      refine lv_aload_n hx hb d_Pla_sidesOf_5 rfl (lv_at hl 0 rfl) ?_
      refine xk_get (C := R_Pla) (T := F_Pla) (N := 9) hx hb hts i_Pla hown hK hP 22 xw_C_at_22 rfl 0 (by decide) u_125 rfl d_Pla_sidesOf_6 ?_
      refine xk_get (C := R_Tow) (T := F_Tow) (N := 8) hx hb hts i_Tow hown hK hP 1 xw_C_at_1 rfl 4 (by decide) u_90 rfl d_Pla_sidesOf_9 ?_
      refine lv_icmp_ge (tgt := 36) hx hb d_Pla_sidesOf_12 (by decide) (fun c_124 => ?_) (fun c_124 => ?_)
      · replace hB := xo_if_t c_124 hB
        have q9 := Option.some.inj hB
        subst q9
        replace hL := Option.some.inj (xo_elR hL)
        subst hL
        exact kx0 _ rfl _ _ _ hP hS (lv_sub hl [2] rfl)
      · replace hB := xo_if_f c_124 hB
        refine lv_aload_n hx hb d_Pla_sidesOf_15 rfl (lv_at hl 0 rfl) ?_
        refine lv_iload_n hx hb d_Pla_sidesOf_16 rfl (lv_at hl 1 rfl) ?_
        refine lv_iconst (v := (1 : Int32)) hx hb d_Pla_sidesOf_17 (by decide) ?_
        refine lv_iload_n hx hb d_Pla_sidesOf_18 rfl (lv_at hl 3 rfl) ?_
        refine lv_ishl hx hb d_Pla_sidesOf_19 ?_
        refine lv_ixor hx hb d_Pla_sidesOf_20 ?_
        obtain ⟨v2, h_v2, hB⟩ := xo_ob hB
        refine xk_goI (xk_runV (As := [.int (x1 ^^^ ((1 : Int32) <<< (w4_3 &&& 31)))]) (rest := []) hx hb hml hown hts hK hE (fun _ h => h) hP hS ok_Pla_hasQuarter in_Pla_hasQuarter u_516 (c_Pla_hasQuarter l D cI cZ ad A adK adV hDw (x1 ^^^ ((1 : Int32) <<< (w4_3 &&& 31))) st v2 h_v2) (va_recv hK hP (ci := 1) (q0 := 22) rfl xw_C_at_22) (by decide) rfl hl.1 rfl (Nat.le_of_ble_eq_true rfl) d_Pla_sidesOf_21 ⟨Nat.le_refl _, Nat.le_refl _⟩) (fun _ h => h) hS (fun H locs hP hS => ?_)
        refine lv_if_eq (tgt := 30) hx hb d_Pla_sidesOf_24 (by decide) (fun c_125 => ?_) (fun c_125 => ?_)
        · replace hB := xo_if_t c_125 hB
          obtain ⟨v3, e_v3, hB⟩ := xo_nm_e hB
          refine lv_iinc (v := v3) (lv' := [(3, .int v3), (0, .ref (ad 22)), (1, .int x1), (2, .int w4_2)]) hx hb d_Pla_sidesOf_30 hl (k := 3) rfl (by rw [e_v3]; rfl) (by decide) rfl (fun ls hl => ?_)
          clear e_v3
          refine lv_goto (tgt := 4) hx hb d_Pla_sidesOf_33 (by decide) ?_
          have q9 := Option.some.inj hB
          subst q9
          exact ih _ _ _ (xo_elL hL) kx0 _ _ _ hP hS (lv_sub hl [1, 2, 3, 0] rfl)
        · replace hB := xo_if_f c_125 hB
          obtain ⟨v4, e_v4, hB⟩ := xo_nm_e hB
          refine lv_iinc (v := v4) (lv' := [(2, .int v4), (0, .ref (ad 22)), (1, .int x1), (3, .int w4_3)]) hx hb d_Pla_sidesOf_27 hl (k := 2) rfl (by rw [e_v4]; rfl) (by decide) rfl (fun ls hl => ?_)
          clear e_v4
          obtain ⟨v5, e_v5, hB⟩ := xo_nm_e hB
          refine lv_iinc (v := v5) (lv' := [(3, .int v5), (2, .int v4), (0, .ref (ad 22)), (1, .int x1)]) hx hb d_Pla_sidesOf_30 hl (k := 3) rfl (by rw [e_v5]; rfl) (by decide) rfl (fun ls hl => ?_)
          clear e_v5
          refine lv_goto (tgt := 4) hx hb d_Pla_sidesOf_33 (by decide) ?_
          have q9 := Option.some.inj hB
          subst q9
          exact ih _ _ _ (xo_elL hL) kx0 _ _ _ hP hS (lv_sub hl [2, 3, 1, 0] rfl)
  obtain ⟨y4, hL4, hF⟩ := xo_ob hF
  refine lp4 1000000 (0 : Int32) (0 : Int32) y4 hL4 ?_ _ _ _ hP hS (lv_sub hl [2, 3, 1, 0] rfl)
  intro o1 ey H locs ls hP hS hl
  subst ey
  refine lv_iload_n hx hb d_Pla_sidesOf_36 rfl (lv_at hl 0 rfl) ?_
  have q9 := Option.some.inj hF
  subst q9
  exact hret 37 _ _ _ d_Pla_sidesOf_37 rfl hP hS
set_option maxHeartbeats 4000000 in
set_option maxRecDepth 100000 in
theorem c_Pla_squares (l : Launch) (D : va_G) (cI cZ : ClassId) (ad : Nat → Nat) (A : Nat → Prop) (adK adV : Nat → Nat) (hDw : ∀ st : XS, va_D A (xw_C ad cI cZ st)) (st : XS) (r9 : Int32) (hF : F_Pla_squares  st = some r9) : K_I l D cI cZ A adK adV (xw_C ad cI cZ) y_Pla_squares b_Pla_squares 3 (some .int) 2 41 [.ref (ad 22)] st r9 st := by
  refine xk_startI (by decide) .int rfl (Nat.le_of_ble_eq_true rfl) ?_
  intro p e s m args below meth c Q ls hx hb hml hown hts hK hE hP hS hl hret
  replace hown : s.vm.findClass R_Pla = some m.cls := hown
  replace hl : lv_has ls 3 [(0, .ref (ad 22))] := hl
  unfold F_Pla_squares at hF
  refine lv_iconst (v := (0 : Int32)) hx hb d_Pla_squares_0 (by decide) ?_
  refine lv_istore_n (lv' := [(1, .int (0 : Int32)), (0, .ref (ad 22))]) hx hb d_Pla_squares_1 rfl hl (by decide) rfl (fun ls hl => ?_)
  refine lv_iconst (v := (0 : Int32)) hx hb d_Pla_squares_2 (by decide) ?_
  refine lv_istore_n (lv' := [(2, .int (0 : Int32)), (1, .int (0 : Int32)), (0, .ref (ad 22))]) hx hb d_Pla_squares_3 rfl hl (by decide) rfl (fun ls hl => ?_)
  have lp4 : ∀ (n : Nat) (w4_1 : Int32) (w4_2 : Int32) (y : Int32), xo_lp (fun q : (Int32 × Int32) => F_Pla_squares_b4 st q.1 q.2) n (w4_1, w4_2) = some y → (∀ (e1 : Int32), e1 = y → ∀ (H : Heap) (locs : List Loc) (ls : Array Slot), va_P D classes (xw_C ad cI cZ st) H → va_S A s.heap H locs → lv_has ls 3 [(1, .int e1)] → W p l e (xk_rm 2 41) s m args below meth c H locs 0 0 Q (F0 m 29 ls [])) → ∀ (H : Heap) (locs : List Loc) (ls : Array Slot), va_P D classes (xw_C ad cI cZ st) H → va_S A s.heap H locs → lv_has ls 3 [(0, .ref (ad 22)), (1, .int w4_1), (2, .int w4_2)] → W p l e (xk_rm 2 41) s m args below meth c H locs 0 0 Q (F0 m 4 ls []) := by
    intro n
    induction n with
    | zero =>
      intro w4_1 w4_2 y hL
      exact nomatch (show (none : Option _) = some y from hL)
    | succ n ih =>
      intro w4_1 w4_2 y hL kx0 H locs ls hP hS hl
      obtain ⟨z9, hB, hL⟩ := xo_lp_s hL
      replace hB : F_Pla_squares_b4 st w4_1 w4_2 = some z9 := hB
      unfold F_Pla_squares_b4 at hB
      refine lv_iload_n hx hb d_Pla_squares_4 rfl (lv_at hl 2 rfl) ?_
      refine lv_aload_n hx hb d_Pla_squares_5 rfl (lv_at hl 0 rfl) ?_
      refine xk_get (C := R_Pla) (T := F_Pla) (N := 9) hx hb hts i_Pla hown hK hP 22 xw_C_at_22 rfl 3 (by decide) u_130 rfl d_Pla_squares_6 ?_
      refine lv_icmp_ge (tgt := 29) hx hb d_Pla_squares_9 (by decide) (fun c_132 => ?_) (fun c_132 => ?_)
      · replace hB := xo_if_t c_132 hB
        have q9 := Option.some.inj hB
        subst q9
        replace hL := Option.some.inj (xo_elR hL)
        subst hL
        exact kx0 _ rfl _ _ _ hP hS (lv_sub hl [1] rfl)
      · replace hB := xo_if_f c_132 hB
        refine lv_aload_n hx hb d_Pla_squares_12 rfl (lv_at hl 0 rfl) ?_
        refine lv_iload_n hx hb d_Pla_squares_13 rfl (lv_at hl 2 rfl) ?_
        obtain ⟨v2, h_v2, hB⟩ := xo_ob hB
        refine xk_goI (xk_runV (As := [.int w4_2]) (rest := []) hx hb hml hown hts hK hE (fun _ h => h) hP hS ok_Pla_isSquare in_Pla_isSquare u_443 (c_Pla_isSquare l D cI cZ ad A adK adV hDw w4_2 st v2 h_v2) (va_recv hK hP (ci := 1) (q0 := 22) rfl xw_C_at_22) (by decide) rfl hl.1 rfl (Nat.le_of_ble_eq_true rfl) d_Pla_squares_14 ⟨Nat.le_refl _, Nat.le_refl _⟩) (fun _ h => h) hS (fun H locs hP hS => ?_)
        refine lv_if_eq (tgt := 23) hx hb d_Pla_squares_17 (by decide) (fun c_133 => ?_) (fun c_133 => ?_)
        · replace hB := xo_if_t c_133 hB
          obtain ⟨v3, e_v3, hB⟩ := xo_nm_e hB
          refine lv_iinc (v := v3) (lv' := [(2, .int v3), (0, .ref (ad 22)), (1, .int w4_1)]) hx hb d_Pla_squares_23 hl (k := 2) rfl (by rw [e_v3]; rfl) (by decide) rfl (fun ls hl => ?_)
          clear e_v3
          refine lv_goto (tgt := 4) hx hb d_Pla_squares_26 (by decide) ?_
          have q9 := Option.some.inj hB
          subst q9
          exact ih _ _ _ (xo_elL hL) kx0 _ _ _ hP hS (lv_sub hl [1, 2, 0] rfl)
        · replace hB := xo_if_f c_133 hB
          obtain ⟨v4, e_v4, hB⟩ := xo_nm_e hB
          refine lv_iinc (v := v4) (lv' := [(1, .int v4), (0, .ref (ad 22)), (2, .int w4_2)]) hx hb d_Pla_squares_20 hl (k := 1) rfl (by rw [e_v4]; rfl) (by decide) rfl (fun ls hl => ?_)
          clear e_v4
          obtain ⟨v5, e_v5, hB⟩ := xo_nm_e hB
          refine lv_iinc (v := v5) (lv' := [(2, .int v5), (1, .int v4), (0, .ref (ad 22))]) hx hb d_Pla_squares_23 hl (k := 2) rfl (by rw [e_v5]; rfl) (by decide) rfl (fun ls hl => ?_)
          clear e_v5
          refine lv_goto (tgt := 4) hx hb d_Pla_squares_26 (by decide) ?_
          have q9 := Option.some.inj hB
          subst q9
          exact ih _ _ _ (xo_elL hL) kx0 _ _ _ hP hS (lv_sub hl [2, 1, 0] rfl)
  obtain ⟨y4, hL4, hF⟩ := xo_ob hF
  refine lp4 1000000 (0 : Int32) (0 : Int32) y4 hL4 ?_ _ _ _ hP hS (lv_sub hl [2, 1, 0] rfl)
  intro o1 ey H locs ls hP hS hl
  subst ey
  refine lv_iload_n hx hb d_Pla_squares_29 rfl (lv_at hl 0 rfl) ?_
  have q9 := Option.some.inj hF
  subst q9
  exact hret 30 _ _ _ d_Pla_squares_30 rfl hP hS
set_option maxHeartbeats 4000000 in
set_option maxRecDepth 100000 in
theorem c_Pla_mostMeeting (l : Launch) (D : va_G) (cI cZ : ClassId) (ad : Nat → Nat) (A : Nat → Prop) (adK adV : Nat → Nat) (hDw : ∀ st : XS, va_D A (xw_C ad cI cZ st)) (st : XS) (r9 : Int32) (hF : F_Pla_mostMeeting  st = some r9) : K_I l D cI cZ A adK adV (xw_C ad cI cZ) y_Pla_mostMeeting b_Pla_mostMeeting 3 (some .int) 1 21 [.ref (ad 22)] st r9 st := by
  refine xk_startI (by decide) .int rfl (Nat.le_of_ble_eq_true rfl) ?_
  intro p e s m args below meth c Q ls hx hb hml hown hts hK hE hP hS hl hret
  replace hown : s.vm.findClass R_Pla = some m.cls := hown
  replace hl : lv_has ls 3 [(0, .ref (ad 22))] := hl
  unfold F_Pla_mostMeeting at hF
  refine lv_iconst (v := (0 : Int32)) hx hb d_Pla_mostMeeting_0 (by decide) ?_
  refine lv_istore_n (lv' := [(1, .int (0 : Int32)), (0, .ref (ad 22))]) hx hb d_Pla_mostMeeting_1 rfl hl (by decide) rfl (fun ls hl => ?_)
  refine lv_iconst (v := (0 : Int32)) hx hb d_Pla_mostMeeting_2 (by decide) ?_
  refine lv_istore_n (lv' := [(2, .int (0 : Int32)), (1, .int (0 : Int32)), (0, .ref (ad 22))]) hx hb d_Pla_mostMeeting_3 rfl hl (by decide) rfl (fun ls hl => ?_)
  have lp4 : ∀ (n : Nat) (w4_1 : Int32) (w4_2 : Int32) (y : Int32), xo_lp (fun q : (Int32 × Int32) => F_Pla_mostMeeting_b4 st q.1 q.2) n (w4_1, w4_2) = some y → (∀ (e1 : Int32), e1 = y → ∀ (H : Heap) (locs : List Loc) (ls : Array Slot), va_P D classes (xw_C ad cI cZ st) H → va_S A s.heap H locs → lv_has ls 3 [(1, .int e1)] → W p l e (xk_rm 1 21) s m args below meth c H locs 0 0 Q (F0 m 32 ls [])) → ∀ (H : Heap) (locs : List Loc) (ls : Array Slot), va_P D classes (xw_C ad cI cZ st) H → va_S A s.heap H locs → lv_has ls 3 [(0, .ref (ad 22)), (1, .int w4_1), (2, .int w4_2)] → W p l e (xk_rm 1 21) s m args below meth c H locs 0 0 Q (F0 m 4 ls []) := by
    intro n
    induction n with
    | zero =>
      intro w4_1 w4_2 y hL
      exact nomatch (show (none : Option _) = some y from hL)
    | succ n ih =>
      intro w4_1 w4_2 y hL kx0 H locs ls hP hS hl
      obtain ⟨z9, hB, hL⟩ := xo_lp_s hL
      replace hB : F_Pla_mostMeeting_b4 st w4_1 w4_2 = some z9 := hB
      unfold F_Pla_mostMeeting_b4 at hB
      refine lv_iload_n hx hb d_Pla_mostMeeting_4 rfl (lv_at hl 2 rfl) ?_
      refine lv_aload_n hx hb d_Pla_mostMeeting_5 rfl (lv_at hl 0 rfl) ?_
      refine xk_get (C := R_Pla) (T := F_Pla) (N := 9) hx hb hts i_Pla hown hK hP 22 xw_C_at_22 rfl 3 (by decide) u_130 rfl d_Pla_mostMeeting_6 ?_
      refine lv_icmp_ge (tgt := 32) hx hb d_Pla_mostMeeting_9 (by decide) (fun c_134 => ?_) (fun c_134 => ?_)
      · replace hB := xo_if_t c_134 hB
        have q9 := Option.some.inj hB
        subst q9
        replace hL := Option.some.inj (xo_elR hL)
        subst hL
        exact kx0 _ rfl _ _ _ hP hS (lv_sub hl [1] rfl)
      · replace hB := xo_if_f c_134 hB
        refine lv_iload_n hx hb d_Pla_mostMeeting_12 rfl (lv_at hl 1 rfl) ?_
        refine lv_aload_n hx hb d_Pla_mostMeeting_13 rfl (lv_at hl 0 rfl) ?_
        refine xk_get (C := R_Pla) (T := F_Pla) (N := 9) hx hb hts i_Pla hown hK hP 22 xw_C_at_22 rfl 7 (by decide) u_135 rfl d_Pla_mostMeeting_14 ?_
        refine lv_iload_n hx hb d_Pla_mostMeeting_17 rfl (lv_at hl 2 rfl) ?_
        obtain ⟨v2, h_v2, hB⟩ := xo_ob hB
        refine xk_iald hx hb hK hP 26 xw_C_at_26 h_v2 d_Pla_mostMeeting_18 ?_
        obtain ⟨v3, h_v3, hB⟩ := xo_ob hB
        refine xk_goI (xk_runS (As := [.int v2]) (rest := [.int w4_1]) hx hb hml hown hts hK hE (fun _ h => h) hP hS ok_Int_bitCount st_Int_bitCount u_447 (c_Int_bitCount l D cI cZ (xw_C ad cI cZ) A adK adV v2 st v3 h_v3) (by decide) rfl hl.1 rfl (Nat.le_of_ble_eq_true rfl) d_Pla_mostMeeting_19 ⟨Nat.le_refl _, Nat.le_refl _⟩) (fun _ h => h) hS (fun H locs hP hS => ?_)
        refine va_mmax hx hb (by rw [hml]; exact hl.1.symm) hown (hts _ u_ms538_max) (hts _ u_st_max) (hts _ u_in_Math) (hts _ u_co_max) (by decide) (Nat.le_of_ble_eq_true rfl) (Nat.le_refl _) (Nat.le_refl _) d_Pla_mostMeeting_22 ?_
        refine lv_topi (fun v4 e_v4 => ?_)
        replace hB := xo_nm_u hB e_v4
        clear e_v4
        refine lv_istore_n (lv' := [(1, .int v4), (0, .ref (ad 22)), (2, .int w4_2)]) hx hb d_Pla_mostMeeting_25 rfl hl (by decide) rfl (fun ls hl => ?_)
        obtain ⟨v5, e_v5, hB⟩ := xo_nm_e hB
        refine lv_iinc (v := v5) (lv' := [(2, .int v5), (1, .int v4), (0, .ref (ad 22))]) hx hb d_Pla_mostMeeting_26 hl (k := 2) rfl (by rw [e_v5]; rfl) (by decide) rfl (fun ls hl => ?_)
        clear e_v5
        refine lv_goto (tgt := 4) hx hb d_Pla_mostMeeting_29 (by decide) ?_
        have q9 := Option.some.inj hB
        subst q9
        exact ih _ _ _ (xo_elL hL) kx0 _ _ _ hP hS (lv_sub hl [2, 1, 0] rfl)
  obtain ⟨y4, hL4, hF⟩ := xo_ob hF
  refine lp4 1000000 (0 : Int32) (0 : Int32) y4 hL4 ?_ _ _ _ hP hS (lv_sub hl [2, 1, 0] rfl)
  intro o1 ey H locs ls hP hS hl
  subst ey
  refine lv_iload_n hx hb d_Pla_mostMeeting_32 rfl (lv_at hl 0 rfl) ?_
  have q9 := Option.some.inj hF
  subst q9
  exact hret 33 _ _ _ d_Pla_mostMeeting_33 rfl hP hS
set_option maxHeartbeats 4000000 in
set_option maxRecDepth 100000 in
theorem c_Pla_quarterAt (l : Launch) (D : va_G) (cI cZ : ClassId) (ad : Nat → Nat) (A : Nat → Prop) (adK adV : Nat → Nat) (hDw : ∀ st : XS, va_D A (xw_C ad cI cZ st)) (x1 : Int32) (x2 : Int32) (st : XS) (r9 : Int32) (hF : F_Pla_quarterAt x1 x2 st = some r9) : K_I l D cI cZ A adK adV (xw_C ad cI cZ) y_Pla_quarterAt b_Pla_quarterAt 3 (some .int) 2 49 [.ref (ad 22), .int x1, .int x2] st r9 st := by
  refine xk_startI (by decide) .int rfl (Nat.le_of_ble_eq_true rfl) ?_
  intro p e s m args below meth c Q ls hx hb hml hown hts hK hE hP hS hl hret
  replace hown : s.vm.findClass R_Pla = some m.cls := hown
  replace hl : lv_has ls 3 [(0, .ref (ad 22)), (1, .int x1), (2, .int x2)] := hl
  unfold F_Pla_quarterAt at hF
  refine lv_aload_n hx hb d_Pla_quarterAt_0 rfl (lv_at hl 0 rfl) ?_
  refine lv_iload_n hx hb d_Pla_quarterAt_1 rfl (lv_at hl 1 rfl) ?_
  refine lv_iload_n hx hb d_Pla_quarterAt_2 rfl (lv_at hl 2 rfl) ?_
  refine lv_iconst (v := (1 : Int32)) hx hb d_Pla_quarterAt_3 (by decide) ?_
  obtain ⟨v1, h_v1, hF⟩ := xo_ob hF
  refine xk_goI (xk_runV (As := [.int x1, .int x2, .int (1 : Int32)]) (rest := []) hx hb hml hown hts hK hE (fun _ h => h) hP hS ok_Pla_streetsThrough in_Pla_streetsThrough u_206 (c_Pla_streetsThrough l D cI cZ ad A adK adV hDw x1 x2 (1 : Int32) st v1 h_v1) (va_recv hK hP (ci := 1) (q0 := 22) rfl xw_C_at_22) (by decide) rfl hl.1 rfl (Nat.le_of_ble_eq_true rfl) d_Pla_quarterAt_4 ⟨Nat.le_refl _, Nat.le_refl _⟩) (fun _ h => h) hS (fun H locs hP hS => ?_)
  refine lv_if_ne (tgt := 20) hx hb d_Pla_quarterAt_7 (by decide) (fun c_139 => ?_) (fun c_139 => ?_)
  · replace hF := xo_if_f c_139 hF
    refine lv_bipush (v := (-9 : Int32)) hx hb d_Pla_quarterAt_20 (by decide) ?_
    have q9 := Option.some.inj hF
    subst q9
    exact hret 22 _ _ _ d_Pla_quarterAt_22 rfl hP hS
  · replace hF := xo_if_t c_139 hF
    refine lv_aload_n hx hb d_Pla_quarterAt_10 rfl (lv_at hl 0 rfl) ?_
    refine lv_iload_n hx hb d_Pla_quarterAt_11 rfl (lv_at hl 1 rfl) ?_
    refine lv_iload_n hx hb d_Pla_quarterAt_12 rfl (lv_at hl 2 rfl) ?_
    refine lv_iconst (v := (1 : Int32)) hx hb d_Pla_quarterAt_13 (by decide) ?_
    obtain ⟨v2, h_v2, hF⟩ := xo_ob hF
    refine xk_goI (xk_runV (As := [.int x1, .int x2, .int (1 : Int32)]) (rest := []) hx hb hml hown hts hK hE (fun _ h => h) hP hS ok_Pla_sidesOfPoint in_Pla_sidesOfPoint u_214 (c_Pla_sidesOfPoint l D cI cZ ad A adK adV hDw x1 x2 (1 : Int32) st v2 h_v2) (va_recv hK hP (ci := 1) (q0 := 22) rfl xw_C_at_22) (by decide) rfl hl.1 rfl (Nat.le_of_ble_eq_true rfl) d_Pla_quarterAt_14 ⟨Nat.le_refl _, Nat.le_refl _⟩) (fun _ h => h) hS (fun H locs hP hS => ?_)
    refine lv_goto (tgt := 22) hx hb d_Pla_quarterAt_17 (by decide) ?_
    have q9 := Option.some.inj hF
    subst q9
    exact hret 22 _ _ _ d_Pla_quarterAt_22 rfl hP hS
set_option maxHeartbeats 4000000 in
set_option maxRecDepth 100000 in
theorem c_Pla_quarterOfPlot (l : Launch) (D : va_G) (cI cZ : ClassId) (ad : Nat → Nat) (A : Nat → Prop) (adK adV : Nat → Nat) (hDw : ∀ st : XS, va_D A (xw_C ad cI cZ st)) (x1 : Int32) (st : XS) (r9 : Int32) (hF : F_Pla_quarterOfPlot x1 st = some r9) : K_I l D cI cZ A adK adV (xw_C ad cI cZ) y_Pla_quarterOfPlot b_Pla_quarterOfPlot 2 (some .int) 3 71 [.ref (ad 22), .int x1] st r9 st := by
  refine xk_startI (by decide) .int rfl (Nat.le_of_ble_eq_true rfl) ?_
  intro p e s m args below meth c Q ls hx hb hml hown hts hK hE hP hS hl hret
  replace hown : s.vm.findClass R_Pla = some m.cls := hown
  replace hl : lv_has ls 2 [(0, .ref (ad 22)), (1, .int x1)] := hl
  unfold F_Pla_quarterOfPlot at hF
  refine lv_aload_n hx hb d_Pla_quarterOfPlot_0 rfl (lv_at hl 0 rfl) ?_
  refine xk_get (C := R_Pla) (T := F_Pla) (N := 9) hx hb hts i_Pla hown hK hP 22 xw_C_at_22 rfl 0 (by decide) u_125 rfl d_Pla_quarterOfPlot_1 ?_
  refine lv_iload_n hx hb d_Pla_quarterOfPlot_4 rfl (lv_at hl 1 rfl) ?_
  obtain ⟨v1, h_v1, hF⟩ := xo_ob hF
  refine xk_goI (xk_runV (As := [.int x1]) (rest := []) hx hb hml hown hts hK hE (fun _ h => h) hP hS ok_Tow_hasPlot in_Tow_hasPlot u_551 (c_Tow_hasPlot l D cI cZ ad A adK adV hDw x1 st v1 h_v1) (va_recv hK hP (ci := 2) (q0 := 1) rfl xw_C_at_1) (by decide) rfl hl.1 rfl (Nat.le_of_ble_eq_true rfl) d_Pla_quarterOfPlot_5 ⟨Nat.le_refl _, Nat.le_refl _⟩) (fun _ h => h) hS (fun H locs hP hS => ?_)
  refine lv_if_eq (tgt := 36) hx hb d_Pla_quarterOfPlot_8 (by decide) (fun c_140 => ?_) (fun c_140 => ?_)
  · replace hF := xo_if_t c_140 hF
    refine lv_bipush (v := (-9 : Int32)) hx hb d_Pla_quarterOfPlot_36 (by decide) ?_
    have q9 := Option.some.inj hF
    subst q9
    exact hret 38 _ _ _ d_Pla_quarterOfPlot_38 rfl hP hS
  · replace hF := xo_if_f c_140 hF
    refine lv_aload_n hx hb d_Pla_quarterOfPlot_11 rfl (lv_at hl 0 rfl) ?_
    refine lv_aload_n hx hb d_Pla_quarterOfPlot_12 rfl (lv_at hl 0 rfl) ?_
    refine xk_get (C := R_Pla) (T := F_Pla) (N := 9) hx hb hts i_Pla hown hK hP 22 xw_C_at_22 rfl 0 (by decide) u_125 rfl d_Pla_quarterOfPlot_13 ?_
    refine xk_get (C := R_Tow) (T := F_Tow) (N := 8) hx hb hts i_Tow hown hK hP 1 xw_C_at_1 rfl 5 (by decide) u_94 rfl d_Pla_quarterOfPlot_16 ?_
    refine lv_iload_n hx hb d_Pla_quarterOfPlot_19 rfl (lv_at hl 1 rfl) ?_
    obtain ⟨v2, h_v2, hF⟩ := xo_ob hF
    refine xk_iald hx hb hK hP 6 xw_C_at_6 h_v2 d_Pla_quarterOfPlot_20 ?_
    refine lv_aload_n hx hb d_Pla_quarterOfPlot_21 rfl (lv_at hl 0 rfl) ?_
    refine xk_get (C := R_Pla) (T := F_Pla) (N := 9) hx hb hts i_Pla hown hK hP 22 xw_C_at_22 rfl 0 (by decide) u_125 rfl d_Pla_quarterOfPlot_22 ?_
    refine xk_get (C := R_Tow) (T := F_Tow) (N := 8) hx hb hts i_Tow hown hK hP 1 xw_C_at_1 rfl 6 (by decide) u_97 rfl d_Pla_quarterOfPlot_25 ?_
    refine lv_iload_n hx hb d_Pla_quarterOfPlot_28 rfl (lv_at hl 1 rfl) ?_
    obtain ⟨v3, h_v3, hF⟩ := xo_ob hF
    refine xk_iald hx hb hK hP 7 xw_C_at_7 h_v3 d_Pla_quarterOfPlot_29 ?_
    obtain ⟨v4, h_v4, hF⟩ := xo_ob hF
    refine xk_goI (xk_runV (As := [.int v2, .int v3]) (rest := []) hx hb hml hown hts hK hE (fun _ h => h) hP hS ok_Pla_quarterAt in_Pla_quarterAt u_552 (c_Pla_quarterAt l D cI cZ ad A adK adV hDw v2 v3 st v4 h_v4) (va_recv hK hP (ci := 1) (q0 := 22) rfl xw_C_at_22) (by decide) rfl hl.1 rfl (Nat.le_of_ble_eq_true rfl) d_Pla_quarterOfPlot_30 ⟨Nat.le_refl _, Nat.le_refl _⟩) (fun _ h => h) hS (fun H locs hP hS => ?_)
    refine lv_goto (tgt := 38) hx hb d_Pla_quarterOfPlot_33 (by decide) ?_
    have q9 := Option.some.inj hF
    subst q9
    exact hret 38 _ _ _ d_Pla_quarterOfPlot_38 rfl hP hS
set_option maxHeartbeats 4000000 in
set_option maxRecDepth 100000 in
theorem c_Pla_quartersWithPlots (l : Launch) (D : va_G) (cI cZ : ClassId) (ad : Nat → Nat) (A : Nat → Prop) (adK adV : Nat → Nat) (hDw : ∀ st : XS, va_D A (xw_C ad cI cZ st)) (st : XS) (r9 : Int64) (hF : F_Pla_quartersWithPlots  st = some r9) : K_L l D cI cZ A adK adV (xw_C ad cI cZ) y_Pla_quartersWithPlots b_Pla_quartersWithPlots 5 (some .long) 4 92 [.ref (ad 22)] st r9 st := by
  refine xk_startL (by decide) rfl (Nat.le_of_ble_eq_true rfl) ?_
  intro p e s m args below meth c Q ls hx hb hml hown hts hK hE hP hS hl hret
  replace hown : s.vm.findClass R_Pla = some m.cls := hown
  replace hl : lv_has ls 5 [(0, .ref (ad 22))] := hl
  unfold F_Pla_quartersWithPlots at hF
  refine lv_lconst (v := (0 : Int64)) hx hb d_Pla_quartersWithPlots_0 (by decide) ?_
  refine lv_lstore_n (lv' := [(1, .long (0 : Int64)), (0, .ref (ad 22))]) hx hb d_Pla_quartersWithPlots_1 rfl hl (by decide) rfl (fun ls hl => ?_)
  refine lv_iconst (v := (0 : Int32)) hx hb d_Pla_quartersWithPlots_2 (by decide) ?_
  refine lv_istore_n (lv' := [(3, .int (0 : Int32)), (1, .long (0 : Int64)), (0, .ref (ad 22))]) hx hb d_Pla_quartersWithPlots_3 rfl hl (by decide) rfl (fun ls hl => ?_)
  have lp4 : ∀ (n : Nat) (w4_1 : Int64) (w4_3 : Int32) (y : Int64), xo_lp (fun q : (Int64 × Int32) => F_Pla_quartersWithPlots_b4 st q.1 q.2) n (w4_1, w4_3) = some y → (∀ (e1 : Int64), e1 = y → ∀ (H : Heap) (locs : List Loc) (ls : Array Slot), va_P D classes (xw_C ad cI cZ st) H → va_S A s.heap H locs → lv_has ls 5 [(1, .long e1)] → W p l e (xk_rm 4 92) s m args below meth c H locs 0 0 Q (F0 m 42 ls [])) → ∀ (H : Heap) (locs : List Loc) (ls : Array Slot), va_P D classes (xw_C ad cI cZ st) H → va_S A s.heap H locs → lv_has ls 5 [(0, .ref (ad 22)), (1, .long w4_1), (3, .int w4_3)] → W p l e (xk_rm 4 92) s m args below meth c H locs 0 0 Q (F0 m 4 ls []) := by
    intro n
    induction n with
    | zero =>
      intro w4_1 w4_3 y hL
      exact nomatch (show (none : Option _) = some y from hL)
    | succ n ih =>
      intro w4_1 w4_3 y hL kx0 H locs ls hP hS hl
      obtain ⟨z9, hB, hL⟩ := xo_lp_s hL
      replace hB : F_Pla_quartersWithPlots_b4 st w4_1 w4_3 = some z9 := hB
      unfold F_Pla_quartersWithPlots_b4 at hB
      refine lv_iload_n hx hb d_Pla_quartersWithPlots_4 rfl (lv_at hl 2 rfl) ?_
      refine lv_aload_n hx hb d_Pla_quartersWithPlots_5 rfl (lv_at hl 0 rfl) ?_
      refine xk_get (C := R_Pla) (T := F_Pla) (N := 9) hx hb hts i_Pla hown hK hP 22 xw_C_at_22 rfl 0 (by decide) u_125 rfl d_Pla_quartersWithPlots_6 ?_
      refine xk_get (C := R_Tow) (T := F_Tow) (N := 8) hx hb hts i_Tow hown hK hP 1 xw_C_at_1 rfl 7 (by decide) u_99 rfl d_Pla_quartersWithPlots_9 ?_
      refine lv_icmp_ge (tgt := 42) hx hb d_Pla_quartersWithPlots_12 (by decide) (fun c_170 => ?_) (fun c_170 => ?_)
      · replace hB := xo_if_t c_170 hB
        have q9 := Option.some.inj hB
        subst q9
        replace hL := Option.some.inj (xo_elR hL)
        subst hL
        exact kx0 _ rfl _ _ _ hP hS (lv_sub hl [1] rfl)
      · replace hB := xo_if_f c_170 hB
        refine lv_aload_n hx hb d_Pla_quartersWithPlots_15 rfl (lv_at hl 0 rfl) ?_
        refine lv_iload_n hx hb d_Pla_quartersWithPlots_16 rfl (lv_at hl 2 rfl) ?_
        obtain ⟨v2, h_v2, hB⟩ := xo_ob hB
        refine xk_goI (xk_runV (As := [.int w4_3]) (rest := []) hx hb hml hown hts hK hE (fun _ h => h) hP hS ok_Pla_quarterOfPlot in_Pla_quarterOfPlot u_591 (c_Pla_quarterOfPlot l D cI cZ ad A adK adV hDw w4_3 st v2 h_v2) (va_recv hK hP (ci := 1) (q0 := 22) rfl xw_C_at_22) (by decide) rfl hl.1 rfl (Nat.le_of_ble_eq_true rfl) d_Pla_quartersWithPlots_17 ⟨Nat.le_refl _, Nat.le_refl _⟩) (fun _ h => h) hS (fun H locs hP hS => ?_)
        refine lv_istore (lv' := [(4, .int v2), (0, .ref (ad 22)), (1, .long w4_1), (3, .int w4_3)]) hx hb d_Pla_quartersWithPlots_20 hl (by decide) rfl (fun ls hl => ?_)
        refine lv_iload hx hb d_Pla_quartersWithPlots_22 (lv_at hl 0 rfl) ?_
        refine lv_bipush (v := (-9 : Int32)) hx hb d_Pla_quartersWithPlots_24 (by decide) ?_
        refine lv_icmp_eq (tgt := 36) hx hb d_Pla_quartersWithPlots_26 (by decide) (fun c_171 => ?_) (fun c_171 => ?_)
        · replace hB := xo_if_t c_171 hB
          obtain ⟨v3, e_v3, hB⟩ := xo_nm_e hB
          refine lv_iinc (v := v3) (lv' := [(3, .int v3), (4, .int v2), (0, .ref (ad 22)), (1, .long w4_1)]) hx hb d_Pla_quartersWithPlots_36 hl (k := 3) rfl (by rw [e_v3]; rfl) (by decide) rfl (fun ls hl => ?_)
          clear e_v3
          refine lv_goto (tgt := 4) hx hb d_Pla_quartersWithPlots_39 (by decide) ?_
          have q9 := Option.some.inj hB
          subst q9
          exact ih _ _ _ (xo_elL hL) kx0 _ _ _ hP hS (lv_sub hl [2, 3, 0] rfl)
        · replace hB := xo_if_f c_171 hB
          refine lv_lload_n hx hb d_Pla_quartersWithPlots_29 rfl (lv_at hl 2 rfl) ?_
          refine lv_lconst (v := (1 : Int64)) hx hb d_Pla_quartersWithPlots_30 (by decide) ?_
          refine lv_iload hx hb d_Pla_quartersWithPlots_31 (lv_at hl 0 rfl) ?_
          refine lv_lshl (v := ((1 : Int64) <<< (v2.toInt64 &&& 63))) hx hb d_Pla_quartersWithPlots_33 rfl ?_
          refine lv_lor hx hb d_Pla_quartersWithPlots_34 ?_
          refine lv_topl (fun v4 e_v4 => ?_)
          replace hB := xo_nm_u hB e_v4
          clear e_v4
          refine lv_lstore_n (lv' := [(1, .long v4), (4, .int v2), (0, .ref (ad 22)), (3, .int w4_3)]) hx hb d_Pla_quartersWithPlots_35 rfl hl (by decide) rfl (fun ls hl => ?_)
          obtain ⟨v5, e_v5, hB⟩ := xo_nm_e hB
          refine lv_iinc (v := v5) (lv' := [(3, .int v5), (1, .long v4), (4, .int v2), (0, .ref (ad 22))]) hx hb d_Pla_quartersWithPlots_36 hl (k := 3) rfl (by rw [e_v5]; rfl) (by decide) rfl (fun ls hl => ?_)
          clear e_v5
          refine lv_goto (tgt := 4) hx hb d_Pla_quartersWithPlots_39 (by decide) ?_
          have q9 := Option.some.inj hB
          subst q9
          exact ih _ _ _ (xo_elL hL) kx0 _ _ _ hP hS (lv_sub hl [3, 1, 0] rfl)
  obtain ⟨y4, hL4, hF⟩ := xo_ob hF
  refine lp4 1000000 (0 : Int64) (0 : Int32) y4 hL4 ?_ _ _ _ hP hS (lv_sub hl [2, 1, 0] rfl)
  intro o1 ey H locs ls hP hS hl
  subst ey
  refine lv_lload_n hx hb d_Pla_quartersWithPlots_42 rfl (lv_at hl 0 rfl) ?_
  have q9 := Option.some.inj hF
  subst q9
  exact hret 43 _ _ _ d_Pla_quartersWithPlots_43 hP hS
set_option maxHeartbeats 4000000 in
set_option maxRecDepth 100000 in
theorem c_Pla_pointsOn (l : Launch) (D : va_G) (cI cZ : ClassId) (ad : Nat → Nat) (A : Nat → Prop) (adK adV : Nat → Nat) (hDw : ∀ st : XS, va_D A (xw_C ad cI cZ st)) (x1 : Int32) (x2 : Int32) (x3 : Int32) (st : XS) (r9 : Int32) (hF : F_Pla_pointsOn x1 x2 x3 st = some r9) : K_I l D cI cZ A adK adV (xw_C ad cI cZ) y_Pla_pointsOn b_Pla_pointsOn 6 (some .int) 0 0 [.ref (ad 22), .int x1, .int x2, .int x3] st r9 st := by
  refine xk_startI (by decide) .int rfl (Nat.le_of_ble_eq_true rfl) ?_
  intro p e s m args below meth c Q ls hx hb hml hown hts hK hE hP hS hl hret
  replace hown : s.vm.findClass R_Pla = some m.cls := hown
  replace hl : lv_has ls 6 [(0, .ref (ad 22)), (1, .int x1), (2, .int x2), (3, .int x3)] := hl
  unfold F_Pla_pointsOn at hF
  refine lv_iconst (v := (0 : Int32)) hx hb d_Pla_pointsOn_0 (by decide) ?_
  refine lv_istore (lv' := [(4, .int (0 : Int32)), (0, .ref (ad 22)), (1, .int x1), (2, .int x2), (3, .int x3)]) hx hb d_Pla_pointsOn_1 hl (by decide) rfl (fun ls hl => ?_)
  refine lv_iconst (v := (0 : Int32)) hx hb d_Pla_pointsOn_3 (by decide) ?_
  refine lv_istore (lv' := [(5, .int (0 : Int32)), (4, .int (0 : Int32)), (0, .ref (ad 22)), (1, .int x1), (2, .int x2), (3, .int x3)]) hx hb d_Pla_pointsOn_4 hl (by decide) rfl (fun ls hl => ?_)
  have lp6 : ∀ (n : Nat) (w6_4 : Int32) (w6_5 : Int32) (y : Int32), xo_lp (fun q : (Int32 × Int32) => F_Pla_pointsOn_b6 x1 x2 x3 st q.1 q.2) n (w6_4, w6_5) = some y → (∀ (e4 : Int32), e4 = y → ∀ (H : Heap) (locs : List Loc) (ls : Array Slot), va_P D classes (xw_C ad cI cZ st) H → va_S A s.heap H locs → lv_has ls 6 [(4, .int e4)] → W p l e (xk_rm 0 0) s m args below meth c H locs 0 0 Q (F0 m 55 ls [])) → ∀ (H : Heap) (locs : List Loc) (ls : Array Slot), va_P D classes (xw_C ad cI cZ st) H → va_S A s.heap H locs → lv_has ls 6 [(0, .ref (ad 22)), (1, .int x1), (2, .int x2), (3, .int x3), (4, .int w6_4), (5, .int w6_5)] → W p l e (xk_rm 0 0) s m args below meth c H locs 0 0 Q (F0 m 6 ls []) := by
    intro n
    induction n with
    | zero =>
      intro w6_4 w6_5 y hL
      exact nomatch (show (none : Option _) = some y from hL)
    | succ n ih =>
      intro w6_4 w6_5 y hL kx0 H locs ls hP hS hl
      obtain ⟨z9, hB, hL⟩ := xo_lp_s hL
      replace hB : F_Pla_pointsOn_b6 x1 x2 x3 st w6_4 w6_5 = some z9 := hB
      unfold F_Pla_pointsOn_b6 at hB
      refine lv_iload hx hb d_Pla_pointsOn_6 (lv_at hl 5 rfl) ?_
      refine lv_aload_n hx hb d_Pla_pointsOn_8 rfl (lv_at hl 0 rfl) ?_
      refine xk_get (C := R_Pla) (T := F_Pla) (N := 9) hx hb hts i_Pla hown hK hP 22 xw_C_at_22 rfl 3 (by decide) u_130 rfl d_Pla_pointsOn_9 ?_
      refine lv_icmp_ge (tgt := 55) hx hb d_Pla_pointsOn_12 (by decide) (fun c_178 => ?_) (fun c_178 => ?_)
      · replace hB := xo_if_t c_178 hB
        have q9 := Option.some.inj hB
        subst q9
        replace hL := Option.some.inj (xo_elR hL)
        subst hL
        exact kx0 _ rfl _ _ _ hP hS (lv_sub hl [4] rfl)
      · replace hB := xo_if_f c_178 hB
        refine lv_iload_n hx hb d_Pla_pointsOn_15 rfl (lv_at hl 1 rfl) ?_
        refine lv_aload_n hx hb d_Pla_pointsOn_16 rfl (lv_at hl 0 rfl) ?_
        refine xk_get (C := R_Pla) (T := F_Pla) (N := 9) hx hb hts i_Pla hown hK hP 22 xw_C_at_22 rfl 4 (by decide) u_132 rfl d_Pla_pointsOn_17 ?_
        refine lv_iload hx hb d_Pla_pointsOn_20 (lv_at hl 5 rfl) ?_
        obtain ⟨v2, h_v2, hB⟩ := xo_ob hB
        refine xk_iald hx hb hK hP 23 xw_C_at_23 h_v2 d_Pla_pointsOn_22 ?_
        refine lv_imul hx hb d_Pla_pointsOn_23 ?_
        refine lv_iload_n hx hb d_Pla_pointsOn_24 rfl (lv_at hl 2 rfl) ?_
        refine lv_aload_n hx hb d_Pla_pointsOn_25 rfl (lv_at hl 0 rfl) ?_
        refine xk_get (C := R_Pla) (T := F_Pla) (N := 9) hx hb hts i_Pla hown hK hP 22 xw_C_at_22 rfl 5 (by decide) u_133 rfl d_Pla_pointsOn_26 ?_
        refine lv_iload hx hb d_Pla_pointsOn_29 (lv_at hl 5 rfl) ?_
        obtain ⟨v3, h_v3, hB⟩ := xo_ob hB
        refine xk_iald hx hb hK hP 24 xw_C_at_24 h_v3 d_Pla_pointsOn_31 ?_
        refine lv_imul hx hb d_Pla_pointsOn_32 ?_
        refine lv_iadd hx hb d_Pla_pointsOn_33 ?_
        refine lv_iload_n hx hb d_Pla_pointsOn_34 rfl (lv_at hl 3 rfl) ?_
        refine lv_aload_n hx hb d_Pla_pointsOn_35 rfl (lv_at hl 0 rfl) ?_
        refine xk_get (C := R_Pla) (T := F_Pla) (N := 9) hx hb hts i_Pla hown hK hP 22 xw_C_at_22 rfl 6 (by decide) u_134 rfl d_Pla_pointsOn_36 ?_
        refine lv_iload hx hb d_Pla_pointsOn_39 (lv_at hl 5 rfl) ?_
        obtain ⟨v4, h_v4, hB⟩ := xo_ob hB
        refine xk_iald hx hb hK hP 25 xw_C_at_25 h_v4 d_Pla_pointsOn_41 ?_
        refine lv_imul hx hb d_Pla_pointsOn_42 ?_
        refine lv_icmp_ne (tgt := 49) hx hb d_Pla_pointsOn_43 (by decide) (fun c_179 => ?_) (fun c_179 => ?_)
        · replace hB := xo_if_f c_179 hB
          obtain ⟨v7, e_v7, hB⟩ := xo_nm_e hB
          refine lv_iinc (v := v7) (lv' := [(5, .int v7), (0, .ref (ad 22)), (1, .int x1), (2, .int x2), (3, .int x3), (4, .int w6_4)]) hx hb d_Pla_pointsOn_49 hl (k := 5) rfl (by rw [e_v7]; rfl) (by decide) rfl (fun ls hl => ?_)
          clear e_v7
          refine lv_goto (tgt := 6) hx hb d_Pla_pointsOn_52 (by decide) ?_
          have q9 := Option.some.inj hB
          subst q9
          exact ih _ _ _ (xo_elL hL) kx0 _ _ _ hP hS (lv_sub hl [1, 2, 3, 4, 5, 0] rfl)
        · replace hB := xo_if_t c_179 hB
          obtain ⟨v5, e_v5, hB⟩ := xo_nm_e hB
          refine lv_iinc (v := v5) (lv' := [(4, .int v5), (0, .ref (ad 22)), (1, .int x1), (2, .int x2), (3, .int x3), (5, .int w6_5)]) hx hb d_Pla_pointsOn_46 hl (k := 4) rfl (by rw [e_v5]; rfl) (by decide) rfl (fun ls hl => ?_)
          clear e_v5
          obtain ⟨v6, e_v6, hB⟩ := xo_nm_e hB
          refine lv_iinc (v := v6) (lv' := [(5, .int v6), (4, .int v5), (0, .ref (ad 22)), (1, .int x1), (2, .int x2), (3, .int x3)]) hx hb d_Pla_pointsOn_49 hl (k := 5) rfl (by rw [e_v6]; rfl) (by decide) rfl (fun ls hl => ?_)
          clear e_v6
          refine lv_goto (tgt := 6) hx hb d_Pla_pointsOn_52 (by decide) ?_
          have q9 := Option.some.inj hB
          subst q9
          exact ih _ _ _ (xo_elL hL) kx0 _ _ _ hP hS (lv_sub hl [2, 3, 4, 5, 1, 0] rfl)
  obtain ⟨y6, hL6, hF⟩ := xo_ob hF
  refine lp6 1000000 (0 : Int32) (0 : Int32) y6 hL6 ?_ _ _ _ hP hS (lv_sub hl [2, 3, 4, 5, 1, 0] rfl)
  intro o1 ey H locs ls hP hS hl
  subst ey
  refine lv_iload hx hb d_Pla_pointsOn_55 (lv_at hl 0 rfl) ?_
  have q9 := Option.some.inj hF
  subst q9
  exact hret 57 _ _ _ d_Pla_pointsOn_57 rfl hP hS
set_option maxHeartbeats 4000000 in
set_option maxRecDepth 100000 in
theorem c_Pla_quartersWithout (l : Launch) (D : va_G) (cI cZ : ClassId) (ad : Nat → Nat) (A : Nat → Prop) (adK adV : Nat → Nat) (hDw : ∀ st : XS, va_D A (xw_C ad cI cZ st)) (x1 : Int32) (st : XS) (r9 : Int32) (hF : F_Pla_quartersWithout x1 st = some r9) : K_I l D cI cZ A adK adV (xw_C ad cI cZ) y_Pla_quartersWithout b_Pla_quartersWithout 5 (some .int) 2 43 [.ref (ad 22), .int x1] st r9 st := by
  refine xk_startI (by decide) .int rfl (Nat.le_of_ble_eq_true rfl) ?_
  intro p e s m args below meth c Q ls hx hb hml hown hts hK hE hP hS hl hret
  replace hown : s.vm.findClass R_Pla = some m.cls := hown
  replace hl : lv_has ls 5 [(0, .ref (ad 22)), (1, .int x1)] := hl
  unfold F_Pla_quartersWithout at hF
  refine lv_lconst (v := (0 : Int64)) hx hb d_Pla_quartersWithout_0 (by decide) ?_
  refine lv_lstore_n (lv' := [(2, .long (0 : Int64)), (0, .ref (ad 22)), (1, .int x1)]) hx hb d_Pla_quartersWithout_1 rfl hl (by decide) rfl (fun ls hl => ?_)
  refine lv_iconst (v := (0 : Int32)) hx hb d_Pla_quartersWithout_2 (by decide) ?_
  refine lv_istore (lv' := [(4, .int (0 : Int32)), (2, .long (0 : Int64)), (0, .ref (ad 22)), (1, .int x1)]) hx hb d_Pla_quartersWithout_3 hl (by decide) rfl (fun ls hl => ?_)
  have lp5 : ∀ (n : Nat) (w5_2 : Int64) (w5_4 : Int32) (y : Int64), xo_lp (fun q : (Int64 × Int32) => F_Pla_quartersWithout_b5 x1 st q.1 q.2) n (w5_2, w5_4) = some y → (∀ (e2 : Int64), e2 = y → ∀ (H : Heap) (locs : List Loc) (ls : Array Slot), va_P D classes (xw_C ad cI cZ st) H → va_S A s.heap H locs → lv_has ls 5 [(2, .long e2)] → W p l e (xk_rm 2 43) s m args below meth c H locs 0 0 Q (F0 m 40 ls [])) → ∀ (H : Heap) (locs : List Loc) (ls : Array Slot), va_P D classes (xw_C ad cI cZ st) H → va_S A s.heap H locs → lv_has ls 5 [(0, .ref (ad 22)), (1, .int x1), (2, .long w5_2), (4, .int w5_4)] → W p l e (xk_rm 2 43) s m args below meth c H locs 0 0 Q (F0 m 5 ls []) := by
    intro n
    induction n with
    | zero =>
      intro w5_2 w5_4 y hL
      exact nomatch (show (none : Option _) = some y from hL)
    | succ n ih =>
      intro w5_2 w5_4 y hL kx0 H locs ls hP hS hl
      obtain ⟨z9, hB, hL⟩ := xo_lp_s hL
      replace hB : F_Pla_quartersWithout_b5 x1 st w5_2 w5_4 = some z9 := hB
      unfold F_Pla_quartersWithout_b5 at hB
      refine lv_iload hx hb d_Pla_quartersWithout_5 (lv_at hl 3 rfl) ?_
      refine lv_bipush (v := (64 : Int32)) hx hb d_Pla_quartersWithout_7 (by decide) ?_
      refine lv_icmp_ge (tgt := 40) hx hb d_Pla_quartersWithout_9 (by decide) (fun c_194 => ?_) (fun c_194 => ?_)
      · replace hB := xo_if_t c_194 hB
        have q9 := Option.some.inj hB
        subst q9
        replace hL := Option.some.inj (xo_elR hL)
        subst hL
        exact kx0 _ rfl _ _ _ hP hS (lv_sub hl [2] rfl)
      · replace hB := xo_if_f c_194 hB
        refine lv_aload_n hx hb d_Pla_quartersWithout_12 rfl (lv_at hl 0 rfl) ?_
        refine lv_iload hx hb d_Pla_quartersWithout_13 (lv_at hl 3 rfl) ?_
        obtain ⟨v2, h_v2, hB⟩ := xo_ob hB
        refine xk_goI (xk_runV (As := [.int w5_4]) (rest := []) hx hb hml hown hts hK hE (fun _ h => h) hP hS ok_Pla_hasQuarter in_Pla_hasQuarter u_516 (c_Pla_hasQuarter l D cI cZ ad A adK adV hDw w5_4 st v2 h_v2) (va_recv hK hP (ci := 1) (q0 := 22) rfl xw_C_at_22) (by decide) rfl hl.1 rfl (Nat.le_of_ble_eq_true rfl) d_Pla_quartersWithout_15 ⟨Nat.le_refl _, Nat.le_refl _⟩) (fun _ h => h) hS (fun H locs hP hS => ?_)
        refine lv_if_eq (tgt := 34) hx hb d_Pla_quartersWithout_18 (by decide) (fun c_195 => ?_) (fun c_195 => ?_)
        · replace hB := xo_if_t c_195 hB
          obtain ⟨v3, e_v3, hB⟩ := xo_nm_e hB
          refine lv_iinc (v := v3) (lv' := [(4, .int v3), (0, .ref (ad 22)), (1, .int x1), (2, .long w5_2)]) hx hb d_Pla_quartersWithout_34 hl (k := 3) rfl (by rw [e_v3]; rfl) (by decide) rfl (fun ls hl => ?_)
          clear e_v3
          refine lv_goto (tgt := 5) hx hb d_Pla_quartersWithout_37 (by decide) ?_
          have q9 := Option.some.inj hB
          subst q9
          exact ih _ _ _ (xo_elL hL) kx0 _ _ _ hP hS (lv_sub hl [1, 2, 3, 0] rfl)
        · replace hB := xo_if_f c_195 hB
          refine lv_lload_n hx hb d_Pla_quartersWithout_21 rfl (lv_at hl 2 rfl) ?_
          refine lv_lconst (v := (1 : Int64)) hx hb d_Pla_quartersWithout_22 (by decide) ?_
          refine lv_iload hx hb d_Pla_quartersWithout_23 (lv_at hl 3 rfl) ?_
          refine lv_iconst (v := (1 : Int32)) hx hb d_Pla_quartersWithout_25 (by decide) ?_
          refine lv_iload_n hx hb d_Pla_quartersWithout_26 rfl (lv_at hl 1 rfl) ?_
          refine lv_ishl hx hb d_Pla_quartersWithout_27 ?_
          refine lv_iconst (v := (-1 : Int32)) hx hb d_Pla_quartersWithout_28 (by decide) ?_
          refine lv_ixor hx hb d_Pla_quartersWithout_29 ?_
          refine lv_iand hx hb d_Pla_quartersWithout_30 ?_
          refine lv_lshl (v := ((1 : Int64) <<< ((w5_4 &&& (((1 : Int32) <<< (x1 &&& 31)) ^^^ (-1 : Int32))).toInt64 &&& 63))) hx hb d_Pla_quartersWithout_31 rfl ?_
          refine lv_lor hx hb d_Pla_quartersWithout_32 ?_
          refine lv_topl (fun v4 e_v4 => ?_)
          replace hB := xo_nm_u hB e_v4
          clear e_v4
          refine lv_lstore_n (lv' := [(2, .long v4), (0, .ref (ad 22)), (1, .int x1), (4, .int w5_4)]) hx hb d_Pla_quartersWithout_33 rfl hl (by decide) rfl (fun ls hl => ?_)
          obtain ⟨v5, e_v5, hB⟩ := xo_nm_e hB
          refine lv_iinc (v := v5) (lv' := [(4, .int v5), (2, .long v4), (0, .ref (ad 22)), (1, .int x1)]) hx hb d_Pla_quartersWithout_34 hl (k := 3) rfl (by rw [e_v5]; rfl) (by decide) rfl (fun ls hl => ?_)
          clear e_v5
          refine lv_goto (tgt := 5) hx hb d_Pla_quartersWithout_37 (by decide) ?_
          have q9 := Option.some.inj hB
          subst q9
          exact ih _ _ _ (xo_elL hL) kx0 _ _ _ hP hS (lv_sub hl [2, 3, 1, 0] rfl)
  obtain ⟨y5, hL5, hF⟩ := xo_ob hF
  refine lp5 1000000 (0 : Int64) (0 : Int32) y5 hL5 ?_ _ _ _ hP hS (lv_sub hl [2, 3, 1, 0] rfl)
  intro o1 ey H locs ls hP hS hl
  subst ey
  refine lv_lload_n hx hb d_Pla_quartersWithout_40 rfl (lv_at hl 0 rfl) ?_
  obtain ⟨v6, h_v6, hF⟩ := xo_ob hF
  refine xk_goI (xk_runS (As := [.long o1]) (rest := []) hx hb hml hown hts hK hE (fun _ h => h) hP hS ok_Lng_bitCount st_Lng_bitCount u_625 (c_Lng_bitCount l D cI cZ (xw_C ad cI cZ) A adK adV o1 st v6 h_v6) (by decide) rfl hl.1 rfl (Nat.le_of_ble_eq_true rfl) d_Pla_quartersWithout_41 ⟨Nat.le_refl _, Nat.le_refl _⟩) (fun _ h => h) hS (fun H locs hP hS => ?_)
  have q9 := Option.some.inj hF
  subst q9
  exact hret 44 _ _ _ d_Pla_quartersWithout_44 rfl hP hS
