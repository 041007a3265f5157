theorem u_63 : (Cond.classLink R_law 7 R_All : Cond) ∈ gd_tbl := List.mem_filter.mpr ⟨List.mem_of_getElem? (i := 63) (by decide +kernel), by decide +kernel⟩
theorem u_64 : (Cond.instantiable R_All 9 : Cond) ∈ gd_tbl := List.mem_filter.mpr ⟨List.mem_of_getElem? (i := 64) (by decide +kernel), by decide +kernel⟩
theorem u_65 : (Cond.methodLink R_law 9 y_All_init : Cond) ∈ gd_tbl := List.mem_filter.mpr ⟨List.mem_of_getElem? (i := 65) (by decide +kernel), by decide +kernel⟩
theorem u_66 : (Cond.instanceMethod y_All_init : Cond) ∈ gd_tbl := List.mem_filter.mpr ⟨List.mem_of_getElem? (i := 66) (by decide +kernel), by decide +kernel⟩
theorem u_67 : (Cond.code y_All_init b_All_init 1 none : Cond) ∈ gd_tbl := List.mem_filter.mpr ⟨List.mem_of_getElem? (i := 67) (by decide +kernel), by decide +kernel⟩
theorem u_660 : (Cond.classLink R_law 10 R_Mod : Cond) ∈ gd_tbl := List.mem_filter.mpr ⟨List.mem_of_getElem? (i := 660) (by decide +kernel), by decide +kernel⟩
theorem u_661 : (Cond.instantiable R_Mod 23 : Cond) ∈ gd_tbl := List.mem_filter.mpr ⟨List.mem_of_getElem? (i := 661) (by decide +kernel), by decide +kernel⟩
theorem u_662 : (Cond.methodLink R_law 12 y_Mod_init : Cond) ∈ gd_tbl := List.mem_filter.mpr ⟨List.mem_of_getElem? (i := 662) (by decide +kernel), by decide +kernel⟩
theorem u_663 : (Cond.instanceMethod y_Mod_init : Cond) ∈ gd_tbl := List.mem_filter.mpr ⟨List.mem_of_getElem? (i := 663) (by decide +kernel), by decide +kernel⟩
theorem u_664 : (Cond.code y_Mod_init b_Mod_init 1 none : Cond) ∈ gd_tbl := List.mem_filter.mpr ⟨List.mem_of_getElem? (i := 664) (by decide +kernel), by decide +kernel⟩
theorem xz_eqr {s : State} {a b : Term} {args : Array Value} {q : Nat} (h : (Cond.eq a b).before args s = true) (ha : a.eval args s none [] s = some (.ref q)) : b.eval args s none [] s = some (.ref q) := by
  cases hb : b.eval args s none [] s with
  | none => simp [Cond.before, Cond.holds, Cond.value, ha, hb] at h
  | some v =>
    simp only [Cond.before, Cond.holds, Cond.value, ha, hb] at h
    cases v <;> simp_all
theorem xz_env {s : State} {b : Nat} (hts : ∀ w ∈ gd_tbl, w.before #[Value.ref b] s = true) (hts0 : ∀ w ∈ lw_tbl, w.before #[Value.ref b] s = true) (hgv : (Jvm.Cond.and given_1 narrow_1).before #[Value.ref b] s = true) : ∃ adK adV : Nat → Nat, xk_E (fun q => s.heap.size ≤ q) adK adV s := by
  have hs := flat_of_before _ hgv
  have hA : ∀ a : Nat, a < s.heap.size → ¬ (fun q : Nat => s.heap.size ≤ q) a := fun a h => Nat.not_le.mpr h
  have hZ : va_Z "java/lang/String" "COMPACT_STRINGS" "Z" (.int 1) (fun q => s.heap.size ≤ q) s s.heap := va_Zof (args := #[Value.ref b]) (hts0 (.laysStatic "java/lang/String" "COMPACT_STRINGS" "Z") (List.mem_of_getElem? (i := 324) (by decide +kernel))) (hts0 (.initialized "java/lang/String") (List.mem_of_getElem? (i := 56) (by decide +kernel))) (va_eqi (hs _ (by decide +kernel))) hA
  obtain ⟨adK, adV, hk, he⟩ := vk_Sof (args := #[Value.ref b]) (s := s) (N := 1) (tm := fun _ => .string "CrossesAllOld$Letters" 63) (len := [6]) (byt := [[112, 108, 100, 103, 116, 110]]) (A := fun q => s.heap.size ≤ q)
    (fun i hi => by obtain rfl : i = 0 := by omega
                    decide)
    (fun i hi => hs _ (by decide +kernel)) (fun i hi => hs _ (by decide +kernel)) (fun i hi => hs _ (by decide +kernel))
    (fun i hi => by obtain rfl : i = 0 := by omega
                    exact hs _ (by decide +kernel))
    (fun i hi j hj => by
      obtain rfl : i = 0 := by omega
      have hj : j < 6 := hj
      rcases (show j = 0 ∨ j = 1 ∨ j = 2 ∨ j = 3 ∨ j = 4 ∨ j = 5 by omega) with rfl | rfl | rfl | rfl | rfl | rfl
      · exact hs _ (by decide +kernel)
      · exact hs _ (by decide +kernel)
      · exact hs _ (by decide +kernel)
      · exact hs _ (by decide +kernel)
      · exact hs _ (by decide +kernel)
      · exact hs _ (by decide +kernel))
    (fun i j hi hj hij => absurd (by omega : i = j) hij) hA
  have e0 := he 0 (by decide)
  have heq : (Cond.eq (.string "CrossesAllOld$Letters" 63) (.string "CrossesAllOldModel" 87)).before #[Value.ref b] s = true := hs _ (by decide +kernel)
  have e1 : (Term.string "CrossesAllOldModel" 87).eval #[Value.ref b] s none [] s = some (.ref (adK 0)) := xz_eqr heq e0
  refine ⟨adK, adV, hZ, hk, vk_R.of (A := #[Value.ref b]) (hts0 (.stringRef "CrossesAllOld$Letters" 63 "pldgtn") (List.mem_of_getElem? (i := 310) (by decide +kernel))) e0, vk_R.of (A := #[Value.ref b]) (hts0 (.stringRef "CrossesAllOldModel" 87 "pldgtn") (List.mem_of_getElem? (i := 768) (by decide +kernel))) e1, va_Nw.of rfl (hts0 (.methodLinkNest R_Pla 41 y_All_has "CrossesAllOld") (List.mem_of_getElem? (i := 497) (by decide +kernel)))⟩
set_option maxHeartbeats 4000000 in
set_option maxRecDepth 100000 in
theorem whole_start {p : Program} {e : Env} {s : State} {m : MethodId} {below : List Frame} {meth : Method} {c : Code} (l : Launch) (hflags : l.flags = flags0) {b L : Nat} {xs : Nat → Int32} (hL : L ≤ 2560) (C0 : lw_At p s m meth c b L xs) : W p l e room_1 s m #[Value.ref b] below meth c s.heap [] 0 0 (lw_Z below #[Value.ref b] s) (entryFrame m ([Value.ref b] : List Value).toArray 4) := by
  obtain ⟨hx, hb, hr, hml, hown, hts0, hX, hbl, hlocks, hgv⟩ := id C0
  have hts : ∀ w ∈ gd_tbl, w.before #[Value.ref b] s = true := fun w h => hts0 w (good_tbl w h).1
  obtain ⟨st9, hF, hR0⟩ := xz_init
  have hA : ∀ q : Nat, s.heap.size ≤ q → (fun q : Nat => s.heap.size ≤ q) q := fun _ h => h
  have hbA : ¬ (fun q : Nat => s.heap.size ≤ q) b := Nat.not_le.mpr hbl
  obtain ⟨c0, iS0, hKn0⟩ := u_known (C := R_Let) (T := F_Let) (N := 5) (n := 5) hts i_Let (hts _ u_157)
  obtain ⟨c1, iS1, hKn1⟩ := u_known (C := R_Pla) (T := F_Pla) (N := 9) (n := 9) hts i_Pla (hts _ u_120)
  obtain ⟨c2, iS2, hKn2⟩ := u_known (C := R_Tow) (T := F_Tow) (N := 8) (n := 8) hts i_Tow (hts _ u_72)
  obtain ⟨c3, iS3, hKn3⟩ := u_known (C := R_All) (T := F_All) (N := 9) (n := 9) hts i_All (hts _ u_64)
  obtain ⟨c4, iS4, hKn4⟩ := u_known (C := R_Mod) (T := F_Mod) (N := 23) (n := 23) hts i_Mod (hts _ u_661)
  obtain ⟨dC, dI, hKc⟩ : ∃ (dC : Nat → ClassId) (dI : Nat → Nat → Nat), ∀ (k : Nat) (q : vw_C), classes[k]? = some q → u_Kn s q.1 q.2.1 q.2.2 (dC k) (dI k) := by
    refine ⟨fun k => if k = 0 then c0 else if k = 1 then c1 else if k = 2 then c2 else if k = 3 then c3 else c4, fun k => if k = 0 then iS0 else if k = 1 then iS1 else if k = 2 then iS2 else if k = 3 then iS3 else iS4, ?_⟩
    intro k q hq
    match k, hq with
    | 0, hq => cases hq; exact hKn0
    | 1, hq => cases hq; exact hKn1
    | 2, hq => cases hq; exact hKn2
    | 3, hq => cases hq; exact hKn3
    | 4, hq => cases hq; exact hKn4
    | k + 5, hq => simp [classes] at hq
  obtain ⟨cI, kA, comp, hfI, hkI, hkkI⟩ := Cond.arrayClass_spec (hts _ u_118)
  obtain ⟨cZ, kZ, compZ, hfZ, hkZ, hkkZ⟩ := Cond.arrayClass_spec (hts _ u_736)
  have hK : va_K (dC, dI) classes (xk_tys cI cZ) s := by
    refine ⟨hKc, fun k q hq => ?_⟩
    match k, hq with
    | 0, hq => cases hq; exact ⟨fun n z => ⟨fun k h => (by cases h), kA, hkI, comp, hkkI⟩, hfI⟩
    | 1, hq => cases hq; exact ⟨fun n z => ⟨fun k h => (by cases h), kZ, hkZ, compZ, hkkZ⟩, hfZ⟩
    | k + 2, hq => simp [xk_tys] at hq
  obtain ⟨adK, adV, hE⟩ := xz_env hts hts0 hgv
  have hS : va_S (fun q : Nat => s.heap.size ≤ q) s.heap s.heap [] := va_S.rf
  have hP : va_P (dC, dI) classes [] s.heap := fun k q h => by simp at h
  have hD : va_D (fun q : Nat => s.heap.size ≤ q) [] := ⟨fun i j p q h => by simp at h, fun k q h => by simp at h⟩
  have hl := lv_entry ([.ref b]) (n := 4) (Nat.le_of_ble_eq_true rfl)
  rw [lg_entry_eq]
  generalize (lg_sl ([.ref b]) ++ List.replicate (4 - (lg_sl ([.ref b])).length) Slot.unset).toArray = ls at hl ⊢
  have hl : lv_has ls 4 [(0, .ref b)] := hl
  refine va_new (ci := 3) (fs := [.null, .null, .null, .int 0, .null, .null, .null, .int 0, .null]) (C := R_All) (T := F_All) (N := 9) hx hb hts i_All t_All t_All_ok hown (hts _ u_63) (hts _ u_64) (hts _ u_49) hK hP hD hS hA rfl (fun j hj => by rcases (show j = 0 ∨ j = 1 ∨ j = 2 ∨ j = 3 ∨ j = 4 ∨ j = 5 ∨ j = 6 ∨ j = 7 ∨ j = 8 by omega) with rfl | rfl | rfl | rfl | rfl | rfl | rfl | rfl | rfl <;> rfl) (by decide) (by decide) d_Law_law_0 (fun qC H hP hD hS => ?_)
  have hP : va_P (dC, dI) classes [(qC, .inr (3, [.null, .null, .null, .int 0, .null, .null, .null, .int 0, .null]))] H := hP
  have hD : va_D (fun q : Nat => s.heap.size ≤ q) [(qC, .inr (3, [.null, .null, .null, .int 0, .null, .null, .null, .int 0, .null]))] := hD
  refine W.widen (k := 1) (n := 9) (by omega) (by omega) ?_
  refine lv_dup hx hb d_Law_law_3 rfl ?_
  have hFc := va_free (wc := [(qC, .inr (3, [.null, .null, .null, .int 0, .null, .null, .null, .int 0, .null]))]) hD hS hA [0] rfl
  refine va_callv (va_runI (As := []) (rest := [.ref qC]) ⟨hx, hb, hml, hown, hts⟩ (c_All_init l (dC, dI) cI cZ qC H.size adK adV st9 hF) (cwI 0 hts (xk_gin u_67) rfl rfl rfl (hts _ u_49) (hts _ u_65) (hts _ u_66) rfl (by decide +kernel) ⟨by decide, by decide⟩) ⟨fun a U g mk q => by obtain ⟨q0, q1, qP, qK, qD, qE⟩ := q; exact ⟨q0, q1, qP, va_K.moved (u := U) (U := U.calling g mk a) (Vm.Alike.refl U.vm) qK, qD, xk_E_same qE rfl rfl⟩, fun U hU hW => ⟨rfl, by rw [hU], by rw [hU]; exact hP, va_K.moved hW.alike hK, hD.weaken (fun _ _ _ _ => trivial), xk_E_to hE hFc hS hU hW⟩⟩ rfl rfl hl.1 rfl (lv_room (Nat.le_of_ble_eq_true rfl)) d_Law_law_4 ⟨by decide, by decide⟩) hS (fun q _ h => hFc q h) hFc (fun u t H1 locs ht hvm hw hB hz1 hk1 hS => ?_)
  obtain ⟨adC, ea, hP1, hD1⟩ := hB
  rw [ht] at hP1
  subst ea
  have hD1s : va_D (va_A [((adC 0), .inr (3, [.null, .null, .null, .int 0, .null, .null, .null, .int 0, .null]))] H.size) (xw_C adC cI cZ st9) := xk_Dof hD1 (by rw [xw_C_ads, xw_C_ads]) (fun a ha => by obtain ⟨x, hx9, ex⟩ := List.mem_map.mp ha; obtain ⟨i9, hi9⟩ := List.getElem?_of_mem hx9; rw [← ex]; exact hD1.2 i9 x hi9)
  obtain ⟨hP, hD⟩ := va_join (wr := []) (w1 := xw_C adC cI cZ st9) hP hD [0] [] rfl rfl (by decide) (by decide) hk1 hFc hP1 hD1s
  clear hP1 hD1 hD1s hk1
  generalize H1 = H at hP hS ⊢
  refine W.widen (k := 33) (n := 360) (by omega) (by omega) ?_
  have hP : va_P (dC, dI) classes (xw_C adC cI cZ st9) H := hP
  have hD : va_D (fun q : Nat => s.heap.size ≤ q) (xw_C adC cI cZ st9) := hD
  refine lv_astore_n (lv' := [(1, .ref (adC 0)), (0, .ref b)]) hx hb d_Law_law_7 rfl hl (by decide) rfl (fun ls hl => ?_)
  refine va_new (ci := 4) (fs := [.int 0, .null, .null, .null, .null, .int 0, .null, .null, .int 0, .null, .int 0, .null, .int 0, .null, .null, .int 0, .null, .null, .null, .null, .int 0, .int 0, .int 0]) (C := R_Mod) (T := F_Mod) (N := 23) hx hb hts i_Mod t_Mod t_Mod_ok hown (hts _ u_660) (hts _ u_661) (hts _ u_54) hK hP hD hS hA rfl (fun j hj => by rcases (show j = 0 ∨ j = 1 ∨ j = 2 ∨ j = 3 ∨ j = 4 ∨ j = 5 ∨ j = 6 ∨ j = 7 ∨ j = 8 ∨ j = 9 ∨ j = 10 ∨ j = 11 ∨ j = 12 ∨ j = 13 ∨ j = 14 ∨ j = 15 ∨ j = 16 ∨ j = 17 ∨ j = 18 ∨ j = 19 ∨ j = 20 ∨ j = 21 ∨ j = 22 by omega) with rfl | rfl | rfl | rfl | rfl | rfl | rfl | rfl | rfl | rfl | rfl | rfl | rfl | rfl | rfl | rfl | rfl | rfl | rfl | rfl | rfl | rfl | rfl <;> rfl) (by decide) (by decide) d_Law_law_8 (fun qM H hP hD hS => ?_)
  refine W.widen (k := 34) (n := 383) (by omega) (by omega) ?_
  refine lv_dup hx hb d_Law_law_11 rfl ?_
  have hPc : va_P (dC, dI) classes [(qM, .inr (4, [.int 0, .null, .null, .null, .null, .int 0, .null, .null, .int 0, .null, .int 0, .null, .int 0, .null, .null, .int 0, .null, .null, .null, .null, .int 0, .int 0, .int 0]))] H := xk_Pr hP
  have hDc : va_D (fun q : Nat => s.heap.size ≤ q) [(qM, .inr (4, [.int 0, .null, .null, .null, .null, .int 0, .null, .null, .int 0, .null, .int 0, .null, .int 0, .null, .null, .int 0, .null, .null, .null, .null, .int 0, .int 0, .int 0]))] := xk_Dr hD
  have hFc : ∀ q, va_A [(qM, .inr (4, [.int 0, .null, .null, .null, .null, .int 0, .null, .null, .int 0, .null, .int 0, .null, .int 0, .null, .null, .int 0, .null, .null, .null, .null, .int 0, .int 0, .int 0]))] H.size q → s.heap.size ≤ q := va_free (wc := [(qM, .inr (4, [.int 0, .null, .null, .null, .null, .int 0, .null, .null, .int 0, .null, .int 0, .null, .int 0, .null, .null, .int 0, .null, .null, .null, .null, .int 0, .int 0, .int 0]))]) hDc hS hA [0] rfl
  refine va_callv (va_runI (As := []) (rest := [.ref qM]) ⟨hx, hb, hml, hown, hts⟩ (c_Mod_init l (dC, dI) cI cZ qM H.size) (cwI 0 hts (xk_gin u_664) rfl rfl rfl (hts _ u_54) (hts _ u_662) (hts _ u_663) rfl (by decide +kernel) ⟨by decide, by decide⟩) ⟨fun a U g mk q => by obtain ⟨q0, q1, qP, qK, qD⟩ := q; exact ⟨q0, q1, qP, va_K.moved (u := U) (U := U.calling g mk a) (Vm.Alike.refl U.vm) qK, qD⟩, fun U hU hW => ⟨rfl, by rw [hU], by rw [hU]; exact hPc, va_K.moved hW.alike hK, hDc.weaken (fun _ _ _ _ => trivial)⟩⟩ rfl rfl hl.1 rfl (lv_room (Nat.le_of_ble_eq_true rfl)) d_Law_law_12 ⟨by decide, by decide⟩) hS (fun q _ h => hFc q h) hFc (fun u t H1 locs ht hvm hw hB hz1 hk1 hS => ?_)
  obtain ⟨adM, ea, hP1, hD1⟩ := hB
  rw [ht] at hP1
  subst ea
  have hPC : va_P (dC, dI) classes (xw_C adC cI cZ st9) H1 := (xk_Pl hP).kept (fun k x hx9 => hk1 x.1 ((xk_Pl hP) k x hx9).lt (fun hn => by
    rcases hn with ⟨k2, e2, h2⟩ | h2
    · have h3 : k2 < 1 := (List.getElem?_eq_some_iff.mp h2).1
      obtain rfl : k2 = 0 := by omega
      have h4 : adM 0 = x.1 := congrArg (fun z : Nat × va_E => z.1) (Option.some.inj h2)
      exact xk_Dx hD hx9 (j := 0) rfl h4.symm
    · exact absurd ((xk_Pl hP) k x hx9).lt (by omega)))
  have hAC : ∀ q, xk_AC adC q → s.heap.size ≤ q := xk_AAof (xk_Dl hD) (fun q hq => by rw [xw_C_ads]; exact hq)
  have hAM0 : ∀ q, xk_AM adM q → va_A [((adM 0), .inr (4, [.int 0, .null, .null, .null, .null, .int 0, .null, .null, .int 0, .null, .int 0, .null, .int 0, .null, .null, .int 0, .null, .null, .null, .null, .int 0, .int 0, .int 0]))] H.size q := xk_AAof hD1 (fun q hq => by rw [xw_M_ads]; exact hq)
  have hdj : ∀ q, xk_AC adC q → xk_AM adM q → False := fun q h1 h2 => by
    have h3 : q ∈ (xw_C adC cI cZ st9).map (fun q => q.1) := by rw [xw_C_ads]; exact h1
    obtain ⟨x, hx9, ex⟩ := List.mem_map.mp h3
    obtain ⟨k, hk9⟩ := List.getElem?_of_mem hx9
    rcases hAM0 q h2 with ⟨k2, e2, h4⟩ | h4
    · have h5 : k2 < 1 := (List.getElem?_eq_some_iff.mp h4).1
      obtain rfl : k2 = 0 := by omega
      have h6 : adM 0 = q := congrArg (fun z : Nat × va_E => z.1) (Option.some.inj h4)
      exact xk_Dx hD hk9 (j := 0) rfl (ex.trans h6.symm)
    · exact absurd ((xk_Pl hP) k x hk9).lt (by rw [ex]; omega)
  have hDC : ∀ st : XS, va_D (xk_AC adC) (xw_C adC cI cZ st) := fun st => xk_Dof (xk_Dl hD) (by rw [xw_C_ads, xw_C_ads]) (fun a ha => by rw [xw_C_ads] at ha; exact ha)
  have hDM : ∀ st : XS, va_D (xk_AM adM) (xw_M adM cI cZ st) := fun st => xk_Dof hD1 (by rw [xw_M_ads, xw_M_ads]) (fun a ha => by rw [xw_M_ads] at ha; exact ha)
  refine W.widen (k := 48) (n := 893) (by omega) (by omega) ?_
  refine lv_astore_n (lv' := [(2, .ref (adM 0)), (1, .ref (adC 0)), (0, .ref b)]) hx hb d_Law_law_15 rfl hl (by decide) rfl (fun ls hl => ?_)
  refine lv_iconst (v := (0 : Int32)) hx hb d_Law_law_16 (by decide) ?_
  refine lv_istore_n (lv' := [(3, .int (0 : Int32)), (2, .ref (adM 0)), (1, .ref (adC 0)), (0, .ref b)]) hx hb d_Law_law_17 rfl hl (by decide) rfl (fun ls hl => ?_)
  exact xz_loop xz_all hL C0 hK hE hDC hDM hAC (fun q h => hFc q (hAM0 q h)) hdj (L + 5) 0 (by omega) (by omega) st9 xs_0 hR0 H1 locs ls hPC hP1 hS (lv_sub hl [3, 2, 1, 0] rfl)
set_option maxHeartbeats 4000000 in
theorem lw_walk (l : Launch) (hflags : l.flags = flags0) (b : Addr) (xs : List Int32) : MetFree l x (headSpec (Jvm.Cond.code x code maxLocals ret :: tables_1) room_1) (lw_P b xs) (fun _ _ _ _ _ => True) lw_Q := by
  refine MetFree.of_bodyS (code := code) (maxLocals := maxLocals) (ret := ret) (by decide) ?_ ?_
  · intro args s m h hn
    obtain ⟨meth, c, h1, h2, h3, h4, h5, h6, -, -⟩ := Cond.code_spec hn (atoms_spec (ws := Jvm.Cond.code x code maxLocals ret :: tables_1) h _ List.mem_cons_self)
    exact ⟨meth, c, h1, h2, h3, h4, h5, h6⟩
  · intro p e s m args below meth c s₁ B hml0 hP _
    obtain ⟨rfl, hx, hbd, hgv⟩ := hP
    obtain ⟨scr, harrAt, hlist, hof, hsmall⟩ := hx
    obtain ⟨hcb, hkn, -, -⟩ := State.arrayAt?_spec harrAt
    have hown : s.vm.findClass R_law = some m.cls := findClass_of_methodNamed B.named
    have hts0 : ∀ c ∈ (Jvm.Cond.code x code maxLocals ret :: tables_1), c.before #[Value.ref b] s = true := atoms_spec (ws := Jvm.Cond.code x code maxLocals ret :: tables_1) B.pre
    have hts : ∀ w ∈ lw_tbl, w.before #[Value.ref b] s = true := k2_hts_sels lw_privs (fun w hw => hts0 w (List.mem_cons_of_mem _ hw)) lw_privs_ok
    have hml : c.maxLocals = 4 := B.maxLocals_eq (hts0 _ List.mem_cons_self)
    have X₀ : Stand p l e room_1 s m #[Value.ref b] below meth c s₁ [] 0 0 := Stand.of_body B
    have hh0 : s₁.heap = s.heap := by rw [B.state]; rfl
    have hsz : scr.slots.size = xs.length := by rw [← Array.length_toList, hlist, List.length_map]
    have hval : ∀ j : Nat, j < xs.length → scr.slots[j]? = some (.int (xs.getD j 0)) := fun j hj => by
      rw [← Array.getElem?_toList, hlist]
      simp [hj]
    have hbl : b < s.heap.size := (Array.getElem?_eq_some_iff.mp hcb).1
    have hX : va_X b xs.length (fun j => xs.getD j 0) s s.heap := ⟨scr, hcb, hof, hkn, hsz, hval⟩
    have K : W p l e room_1 s m #[Value.ref b] below meth c s₁.heap [] 0 0 (lw_Z below #[Value.ref b] s) (entryFrame m ([Value.ref b] : List Value).toArray 4) := by
      rw [hh0]
      exact whole_start l hflags hbd ⟨B.exec, B.bytes, B.returns, hml, hown, hts, hX, hbl, B.notSynchronized, hgv⟩
    obtain ⟨t, a1, o, b1, b2, b3⟩ := K s₁ rfl X₀
    exact ⟨t, o, a1, b1, b2, b3⟩
theorem lw_pre_spec {args : Array Value} {s : State} (h : (Jvm.Cond.and given_1 narrow_1).before args s = true) (hr : rest_1_c.before args s = true) : ∃ (b : Addr) (xs : List Int32), lw_P b xs args s := by
  have hs := flat_of_before _ h
  have hq := flat_of_before _ hr
  have hc : (Cond.count 1).before args s = true := hs _ (by decide +kernel)
  have harr : (Cond.arrayOf (.arg 0) .int).before args s = true := hs _ (by decide +kernel)
  have hle : (Cond.le (.length (.arg 0)) (.int 2560)).before args s = true := hs _ (by decide +kernel)
  have hlen : (Cond.isInt (.length (.arg 0))).before args s = true := hq _ (by decide +kernel)
  have hall : (Cond.all (.arg 0) (.isInt (.elem (.arg 0) (.index 0)))).before args s = true := hq _ (by decide +kernel)
  obtain ⟨b, xs, hb, hx⟩ := State.ints_of_pre rfl harr hlen hall
  have hsm : xs.length < 2 ^ 31 := hx.choose_spec.2.2.2
  have hev : (Term.length (.arg 0)).eval args s none [] s = some (.int xs.length.toInt32) := hx.length_eval hb
  have hv := Cond.le_ints hev (show (Term.int 2560).eval args s none [] s = some (.int 2560) from rfl)
  have hd : xs.length.toInt32 ≤ 2560 := by
    simpa [Cond.before, Cond.holds, hv] using hle
  have hN : xs.length ≤ 2560 := (Int32.ofNat_le_ofNat hsm (by decide)).mp (show Int32.ofNat xs.length ≤ Int32.ofNat 2560 from hd)
  exact ⟨b, xs, Cond.one_arg hc (show args[0]? = some (.ref b) from hb), hx, hN, h⟩
theorem lw_comes (l : Launch) (hflags : l.flags = flags0) : Comes l x (Jvm.Cond.code x code maxLocals ret :: tables_1) room_1 (fun tb e args s => Calls_1 tb e args s ∧ rest_1 tb e args s ∧ Pre_1 tb e args s)
    (fun _ _ args s o t => lw_Q args s o t) := by
  intro p e ha hc hk s m args below hf hfit hheap happ hpre
  obtain ⟨b, xs, hP⟩ := lw_pre_spec hpre.2.2 hpre.2.1
  obtain ⟨k, o, h1, h2, h3, hQ⟩ := lw_walk l hflags b xs p e ha hc hk s m args below hf ((Spec.applies_iff_loose hf).mp happ).1 hP trivial
  exact ⟨k, o, h1, h2, h3, hQ⟩
theorem lw_frame {s t : State} {o : Outcome} {args : Array Value} (h : Framed s o t [] 48 893) :
    Framed s o t (fieldLocs frame_1_writes args s ++ arrayLocs frame_1_arrays args s ++ staticLocs frame_1_statics s) 48 893 := h
theorem lw_limb (L : Cond) (hL : ∀ (args : Array Value) (s t : State), L.after args s (.returned (some (.int 1))) t = true) :
    ArmFor flags0 classFile x code maxLocals ret World_1 tables_1 room_1 Calls_1 rest_1 Pre_1
      (fun tb e a s o t => postC L tb e a s o t ∧ Framed s o t (fieldLocs frame_1_writes a s ++ arrayLocs frame_1_arrays a s ++ staticLocs frame_1_statics s) 48 893) := by
  intro l hflags _ _ p e ha hc hk s m args below hf hfit hheap happ hpre
  obtain ⟨k, o, h1, h2, h3, rfl, hF⟩ := lw_comes l hflags p e ha hc hk s m args below hf hfit hheap happ hpre
  exact ⟨k, _, h1, h2, h3, hL args s _, lw_frame hF⟩
theorem i_vc : Claimed_1_1 ∧ Claimed_1_2 := ⟨lw_limb limb_1_1 (fun args s t => by simp [limb_1_1, Cond.after, Cond.holds, Cond.value]), lw_limb limb_1_2 (fun args s t => Cond.after_iff.mpr (by
  first | (rw [show limb_1_2 = Cond.eq .result (.int 1) from rfl, Cond.eq_ints (x := 1) (y := 1) rfl rfl]; simp; done) | (simp [limb_1_2, Cond.value, Term.eval]; done)))⟩
