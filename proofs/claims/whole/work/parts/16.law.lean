/-! THE CLAIM OUT OF ONE WALK OF THE LAW'S BODY. Your part is whole_start (and what it stands on); all else here is the same for every law, but numbers. -/
def R_law : String := "CrossesAllOldLaw"
def lw_P (b : Addr) (xs : List Int32) (args : Array Value) (s : State) : Prop := args = #[.ref b] ∧ s.IntsAt b xs ∧ xs.length ≤ 2560 ∧ (Jvm.Cond.and given_1 narrow_1).before args s = true
def lw_Q (_ : Array Value) (s : State) (o : Outcome) (t : State) : Prop := o = .returned (some (.int 1)) ∧ Framed s o t [] 48 893
def lw_Z (below : List Frame) (a : Array Value) (s : State) : State → Prop := fun t => ∃ o, t.status = .running ∧ Ended t below o ∧ lw_Q a s o t
/-- the law's own end, with 1 on the stack, nothing written that was there before, its room as the claim has it -/
theorem lw_ret {p : Program} {l : Launch} {e : Env} {s : State} {m : MethodId} {below : List Frame} {meth : Method} {c : Code} {b : Nat} (hx : p.tables.exec = Jvm.exec) (hb : c.code = code) (hr : meth.sig.returnType = ret) (hlocks : meth.locks = false) {pc : Nat} {H : Heap} {ls : Array Slot} (hdg : decode code pc = .ok (.ireturn, 1)) : W p l e room_1 s m #[Value.ref b] below meth c H [] 48 893 (lw_Z below #[Value.ref b] s) (F0 m pc ls [.int 1]) := by
  intro T hT X
  obtain ⟨fs, hret, hrun, hended, hW, hframe⟩ := X.leave (v := some (.int 1)) (hlocks := hlocks) (fun h => by rw [hr] at h; cases h)
  have hmeth' : T.vm.method? m = some meth := X.method'
  refine ⟨T.setFrames fs, ?_, .returned (some (.int 1)), hrun, hended, rfl, ⟨_, rfl⟩, hW, hframe⟩
  jvm_step X.here [X.here.top, hx, hb, hdg, hmeth', hr, ret, narrow_b1]
  (try refine ⟨rfl, ?_⟩); (try refine ⟨rfl, ?_⟩)
  first | (intro acts; rw [hret _ acts rfl rfl rfl]) | rw [hret _ _ rfl rfl rfl]
  exact Steps.refl _
/-- what holds at the law's entry: the machine, the code, the tables' words (any of lw_tbl by 'hts w (by decide +kernel)'), the script of L ints xs at the cell b, what the Statement gives of the start (any of its parts by flat_of_before) -/
def lw_At (p : Program) (s : State) (m : MethodId) (meth : Method) (c : Code) (b L : Nat) (xs : Nat → Int32) : Prop :=
  p.tables.exec = Jvm.exec ∧ c.code = code ∧ meth.sig.returnType = ret ∧ c.maxLocals = 4 ∧ s.vm.findClass R_law = some m.cls ∧ (∀ w ∈ lw_tbl, w.before #[Value.ref b] s = true) ∧ va_X b L xs s s.heap ∧ b < s.heap.size ∧ meth.locks = false ∧ (Jvm.Cond.and given_1 narrow_1).before #[Value.ref b] s = true
theorem u_262 : (Cond.methodLink R_law 13 y_All_letter : Cond) ∈ gd_tbl := List.mem_filter.mpr ⟨List.mem_of_getElem? (i := 262) (by decide +kernel), by decide +kernel⟩
theorem u_279 : (Cond.methodLink R_law 18 y_All_town : Cond) ∈ gd_tbl := List.mem_filter.mpr ⟨List.mem_of_getElem? (i := 279) (by decide +kernel), by decide +kernel⟩
theorem u_426 : (Cond.methodLink R_law 23 y_All_street : Cond) ∈ gd_tbl := List.mem_filter.mpr ⟨List.mem_of_getElem? (i := 426) (by decide +kernel), by decide +kernel⟩
theorem u_457 : (Cond.methodLink R_law 28 y_All_plot : Cond) ∈ gd_tbl := List.mem_filter.mpr ⟨List.mem_of_getElem? (i := 457) (by decide +kernel), by decide +kernel⟩
theorem u_465 : (Cond.methodLink R_law 32 y_All_crossing : Cond) ∈ gd_tbl := List.mem_filter.mpr ⟨List.mem_of_getElem? (i := 465) (by decide +kernel), by decide +kernel⟩
theorem u_475 : (Cond.methodLink R_law 37 y_All_quarters : Cond) ∈ gd_tbl := List.mem_filter.mpr ⟨List.mem_of_getElem? (i := 475) (by decide +kernel), by decide +kernel⟩
theorem u_485 : (Cond.methodLink R_law 41 y_All_open : Cond) ∈ gd_tbl := List.mem_filter.mpr ⟨List.mem_of_getElem? (i := 485) (by decide +kernel), by decide +kernel⟩
theorem u_489 : (Cond.methodLink R_law 45 y_All_with : Cond) ∈ gd_tbl := List.mem_filter.mpr ⟨List.mem_of_getElem? (i := 489) (by decide +kernel), by decide +kernel⟩
theorem u_504 : (Cond.methodLink R_law 49 y_All_corners : Cond) ∈ gd_tbl := List.mem_filter.mpr ⟨List.mem_of_getElem? (i := 504) (by decide +kernel), by decide +kernel⟩
theorem u_508 : (Cond.methodLink R_law 53 y_All_sides : Cond) ∈ gd_tbl := List.mem_filter.mpr ⟨List.mem_of_getElem? (i := 508) (by decide +kernel), by decide +kernel⟩
theorem u_517 : (Cond.methodLink R_law 57 y_All_isOpen : Cond) ∈ gd_tbl := List.mem_filter.mpr ⟨List.mem_of_getElem? (i := 517) (by decide +kernel), by decide +kernel⟩
theorem u_522 : (Cond.methodLink R_law 61 y_All_whole : Cond) ∈ gd_tbl := List.mem_filter.mpr ⟨List.mem_of_getElem? (i := 522) (by decide +kernel), by decide +kernel⟩
theorem u_526 : (Cond.methodLink R_law 65 y_All_points : Cond) ∈ gd_tbl := List.mem_filter.mpr ⟨List.mem_of_getElem? (i := 526) (by decide +kernel), by decide +kernel⟩
theorem u_539 : (Cond.methodLink R_law 69 y_All_lamps : Cond) ∈ gd_tbl := List.mem_filter.mpr ⟨List.mem_of_getElem? (i := 539) (by decide +kernel), by decide +kernel⟩
theorem u_543 : (Cond.methodLink R_law 73 y_All_where : Cond) ∈ gd_tbl := List.mem_filter.mpr ⟨List.mem_of_getElem? (i := 543) (by decide +kernel), by decide +kernel⟩
theorem u_556 : (Cond.methodLink R_law 77 y_All_together : Cond) ∈ gd_tbl := List.mem_filter.mpr ⟨List.mem_of_getElem? (i := 556) (by decide +kernel), by decide +kernel⟩
theorem u_560 : (Cond.methodLink R_law 81 y_All_steps : Cond) ∈ gd_tbl := List.mem_filter.mpr ⟨List.mem_of_getElem? (i := 560) (by decide +kernel), by decide +kernel⟩
theorem u_565 : (Cond.methodLink R_law 85 y_All_next : Cond) ∈ gd_tbl := List.mem_filter.mpr ⟨List.mem_of_getElem? (i := 565) (by decide +kernel), by decide +kernel⟩
theorem u_579 : (Cond.methodLink R_law 90 y_All_through : Cond) ∈ gd_tbl := List.mem_filter.mpr ⟨List.mem_of_getElem? (i := 579) (by decide +kernel), by decide +kernel⟩
theorem u_583 : (Cond.methodLink R_law 94 y_All_spare : Cond) ∈ gd_tbl := List.mem_filter.mpr ⟨List.mem_of_getElem? (i := 583) (by decide +kernel), by decide +kernel⟩
theorem u_596 : (Cond.methodLink R_law 98 y_All_most : Cond) ∈ gd_tbl := List.mem_filter.mpr ⟨List.mem_of_getElem? (i := 596) (by decide +kernel), by decide +kernel⟩
theorem u_605 : (Cond.methodLink R_law 102 y_All_fear : Cond) ∈ gd_tbl := List.mem_filter.mpr ⟨List.mem_of_getElem? (i := 605) (by decide +kernel), by decide +kernel⟩
theorem u_613 : (Cond.methodLink R_law 106 y_All_taken : Cond) ∈ gd_tbl := List.mem_filter.mpr ⟨List.mem_of_getElem? (i := 613) (by decide +kernel), by decide +kernel⟩
theorem u_626 : (Cond.methodLink R_law 110 y_All_row : Cond) ∈ gd_tbl := List.mem_filter.mpr ⟨List.mem_of_getElem? (i := 626) (by decide +kernel), by decide +kernel⟩
theorem u_630 : (Cond.methodLink R_law 114 y_All_judge : Cond) ∈ gd_tbl := List.mem_filter.mpr ⟨List.mem_of_getElem? (i := 630) (by decide +kernel), by decide +kernel⟩
theorem u_634 : (Cond.methodLink R_law 118 y_All_seeds : Cond) ∈ gd_tbl := List.mem_filter.mpr ⟨List.mem_of_getElem? (i := 634) (by decide +kernel), by decide +kernel⟩
theorem u_648 : (Cond.methodLink R_law 122 y_All_image : Cond) ∈ gd_tbl := List.mem_filter.mpr ⟨List.mem_of_getElem? (i := 648) (by decide +kernel), by decide +kernel⟩
theorem u_652 : (Cond.methodLink R_law 126 y_All_on : Cond) ∈ gd_tbl := List.mem_filter.mpr ⟨List.mem_of_getElem? (i := 652) (by decide +kernel), by decide +kernel⟩
theorem u_656 : (Cond.methodLink R_law 130 y_All_count : Cond) ∈ gd_tbl := List.mem_filter.mpr ⟨List.mem_of_getElem? (i := 656) (by decide +kernel), by decide +kernel⟩
theorem u_737 : (Cond.methodLink R_law 17 y_Mod_letter : Cond) ∈ gd_tbl := List.mem_filter.mpr ⟨List.mem_of_getElem? (i := 737) (by decide +kernel), by decide +kernel⟩
theorem u_745 : (Cond.methodLink R_law 22 y_Mod_town : Cond) ∈ gd_tbl := List.mem_filter.mpr ⟨List.mem_of_getElem? (i := 745) (by decide +kernel), by decide +kernel⟩
theorem u_782 : (Cond.methodLink R_law 27 y_Mod_street : Cond) ∈ gd_tbl := List.mem_filter.mpr ⟨List.mem_of_getElem? (i := 782) (by decide +kernel), by decide +kernel⟩
theorem u_811 : (Cond.methodLink R_law 31 y_Mod_plot : Cond) ∈ gd_tbl := List.mem_filter.mpr ⟨List.mem_of_getElem? (i := 811) (by decide +kernel), by decide +kernel⟩
theorem u_819 : (Cond.methodLink R_law 36 y_Mod_crossing : Cond) ∈ gd_tbl := List.mem_filter.mpr ⟨List.mem_of_getElem? (i := 819) (by decide +kernel), by decide +kernel⟩
theorem u_824 : (Cond.methodLink R_law 40 y_Mod_quarters : Cond) ∈ gd_tbl := List.mem_filter.mpr ⟨List.mem_of_getElem? (i := 824) (by decide +kernel), by decide +kernel⟩
theorem u_849 : (Cond.methodLink R_law 44 y_Mod_open : Cond) ∈ gd_tbl := List.mem_filter.mpr ⟨List.mem_of_getElem? (i := 849) (by decide +kernel), by decide +kernel⟩
theorem u_853 : (Cond.methodLink R_law 48 y_Mod_with : Cond) ∈ gd_tbl := List.mem_filter.mpr ⟨List.mem_of_getElem? (i := 853) (by decide +kernel), by decide +kernel⟩
theorem u_857 : (Cond.methodLink R_law 52 y_Mod_corners : Cond) ∈ gd_tbl := List.mem_filter.mpr ⟨List.mem_of_getElem? (i := 857) (by decide +kernel), by decide +kernel⟩
theorem u_865 : (Cond.methodLink R_law 56 y_Mod_sides : Cond) ∈ gd_tbl := List.mem_filter.mpr ⟨List.mem_of_getElem? (i := 865) (by decide +kernel), by decide +kernel⟩
theorem u_873 : (Cond.methodLink R_law 60 y_Mod_isOpen : Cond) ∈ gd_tbl := List.mem_filter.mpr ⟨List.mem_of_getElem? (i := 873) (by decide +kernel), by decide +kernel⟩
theorem u_877 : (Cond.methodLink R_law 64 y_Mod_whole : Cond) ∈ gd_tbl := List.mem_filter.mpr ⟨List.mem_of_getElem? (i := 877) (by decide +kernel), by decide +kernel⟩
theorem u_881 : (Cond.methodLink R_law 68 y_Mod_points : Cond) ∈ gd_tbl := List.mem_filter.mpr ⟨List.mem_of_getElem? (i := 881) (by decide +kernel), by decide +kernel⟩
theorem u_885 : (Cond.methodLink R_law 72 y_Mod_lamps : Cond) ∈ gd_tbl := List.mem_filter.mpr ⟨List.mem_of_getElem? (i := 885) (by decide +kernel), by decide +kernel⟩
theorem u_889 : (Cond.methodLink R_law 76 y_Mod_where : Cond) ∈ gd_tbl := List.mem_filter.mpr ⟨List.mem_of_getElem? (i := 889) (by decide +kernel), by decide +kernel⟩
theorem u_905 : (Cond.methodLink R_law 80 y_Mod_together : Cond) ∈ gd_tbl := List.mem_filter.mpr ⟨List.mem_of_getElem? (i := 905) (by decide +kernel), by decide +kernel⟩
theorem u_909 : (Cond.methodLink R_law 84 y_Mod_steps : Cond) ∈ gd_tbl := List.mem_filter.mpr ⟨List.mem_of_getElem? (i := 909) (by decide +kernel), by decide +kernel⟩
theorem u_913 : (Cond.methodLink R_law 89 y_Mod_next : Cond) ∈ gd_tbl := List.mem_filter.mpr ⟨List.mem_of_getElem? (i := 913) (by decide +kernel), by decide +kernel⟩
theorem u_925 : (Cond.methodLink R_law 93 y_Mod_through : Cond) ∈ gd_tbl := List.mem_filter.mpr ⟨List.mem_of_getElem? (i := 925) (by decide +kernel), by decide +kernel⟩
theorem u_929 : (Cond.methodLink R_law 97 y_Mod_spare : Cond) ∈ gd_tbl := List.mem_filter.mpr ⟨List.mem_of_getElem? (i := 929) (by decide +kernel), by decide +kernel⟩
theorem u_933 : (Cond.methodLink R_law 101 y_Mod_most : Cond) ∈ gd_tbl := List.mem_filter.mpr ⟨List.mem_of_getElem? (i := 933) (by decide +kernel), by decide +kernel⟩
theorem u_937 : (Cond.methodLink R_law 105 y_Mod_fear : Cond) ∈ gd_tbl := List.mem_filter.mpr ⟨List.mem_of_getElem? (i := 937) (by decide +kernel), by decide +kernel⟩
theorem u_941 : (Cond.methodLink R_law 109 y_Mod_taken : Cond) ∈ gd_tbl := List.mem_filter.mpr ⟨List.mem_of_getElem? (i := 941) (by decide +kernel), by decide +kernel⟩
theorem u_949 : (Cond.methodLink R_law 113 y_Mod_row : Cond) ∈ gd_tbl := List.mem_filter.mpr ⟨List.mem_of_getElem? (i := 949) (by decide +kernel), by decide +kernel⟩
theorem u_953 : (Cond.methodLink R_law 117 y_Mod_judge : Cond) ∈ gd_tbl := List.mem_filter.mpr ⟨List.mem_of_getElem? (i := 953) (by decide +kernel), by decide +kernel⟩
theorem u_957 : (Cond.methodLink R_law 121 y_Mod_seeds : Cond) ∈ gd_tbl := List.mem_filter.mpr ⟨List.mem_of_getElem? (i := 957) (by decide +kernel), by decide +kernel⟩
theorem u_965 : (Cond.methodLink R_law 125 y_Mod_image : Cond) ∈ gd_tbl := List.mem_filter.mpr ⟨List.mem_of_getElem? (i := 965) (by decide +kernel), by decide +kernel⟩
theorem u_969 : (Cond.methodLink R_law 129 y_Mod_on : Cond) ∈ gd_tbl := List.mem_filter.mpr ⟨List.mem_of_getElem? (i := 969) (by decide +kernel), by decide +kernel⟩
theorem u_973 : (Cond.methodLink R_law 133 y_Mod_count : Cond) ∈ gd_tbl := List.mem_filter.mpr ⟨List.mem_of_getElem? (i := 973) (by decide +kernel), by decide +kernel⟩
/-! THE LAW over a relation of states that every call keeps -/
def xz_step_letter (R : XS → XS → Prop) : Prop := ∀ (sc sm : XS) (x1 : Int32), R sc sm → ∃ (r : Int32) (sc2 sm2 : XS), F_All_letter x1 sc = some (r, sc2) ∧ F_Mod_letter x1 sm = some (r, sm2) ∧ R sc2 sm2
def xz_step_town (R : XS → XS → Prop) : Prop := ∀ (sc sm : XS), R sc sm → ∃ (r : Int32) (sc2 sm2 : XS), F_All_town sc = some (r, sc2) ∧ F_Mod_town sm = some (r, sm2) ∧ R sc2 sm2
def xz_step_street (R : XS → XS → Prop) : Prop := ∀ (sc sm : XS) (x1 x2 : Int32), R sc sm → ∃ (r : Int32) (sc2 sm2 : XS), F_All_street x1 x2 sc = some (r, sc2) ∧ F_Mod_street x1 x2 sm = some (r, sm2) ∧ R sc2 sm2
def xz_step_plot (R : XS → XS → Prop) : Prop := ∀ (sc sm : XS) (x1 x2 : Int32), R sc sm → ∃ (r : Int32) (sc2 sm2 : XS), F_All_plot x1 x2 sc = some (r, sc2) ∧ F_Mod_plot x1 x2 sm = some (r, sm2) ∧ R sc2 sm2
def xz_step_crossing (R : XS → XS → Prop) : Prop := ∀ (sc sm : XS) (x1 x2 x3 : Int32), R sc sm → ∃ (r : Int32) (sc2 sm2 : XS), F_All_crossing x1 x2 x3 sc = some (r, sc2) ∧ F_Mod_crossing x1 x2 x3 sm = some (r, sm2) ∧ R sc2 sm2
def xz_step_quarters (R : XS → XS → Prop) : Prop := ∀ (sc sm : XS), R sc sm → ∃ (r : Int32) (sc2 sm2 : XS), F_All_quarters sc = some r ∧ F_Mod_quarters sm = some (r, sm2) ∧ R sc2 sm2 ∧ sc = sc2
def xz_step_open (R : XS → XS → Prop) : Prop := ∀ (sc sm : XS), R sc sm → ∃ (r : Int32) (sc2 sm2 : XS), F_All_open sc = some r ∧ F_Mod_open sm = some (r, sm2) ∧ R sc2 sm2 ∧ sc = sc2
def xz_step_with (R : XS → XS → Prop) : Prop := ∀ (sc sm : XS) (x1 : Int32), R sc sm → ∃ (r : Int32) (sc2 sm2 : XS), F_All_with x1 sc = some (r, sc2) ∧ F_Mod_with x1 sm = some (r, sm2) ∧ R sc2 sm2
def xz_step_corners (R : XS → XS → Prop) : Prop := ∀ (sc sm : XS) (x1 : Int32), R sc sm → ∃ (r : Int32) (sc2 sm2 : XS), F_All_corners x1 sc = some (r, sc2) ∧ F_Mod_corners x1 sm = some (r, sm2) ∧ R sc2 sm2
def xz_step_sides (R : XS → XS → Prop) : Prop := ∀ (sc sm : XS) (x1 : Int32), R sc sm → ∃ (r : Int32) (sc2 sm2 : XS), F_All_sides x1 sc = some (r, sc2) ∧ F_Mod_sides x1 sm = some (r, sm2) ∧ R sc2 sm2
def xz_step_isOpen (R : XS → XS → Prop) : Prop := ∀ (sc sm : XS) (x1 : Int32), R sc sm → ∃ (r : Int32) (sc2 sm2 : XS), F_All_isOpen x1 sc = some (r, sc2) ∧ F_Mod_isOpen x1 sm = some (r, sm2) ∧ R sc2 sm2
def xz_step_whole (R : XS → XS → Prop) : Prop := ∀ (sc sm : XS), R sc sm → ∃ (r : Int32) (sc2 sm2 : XS), F_All_whole sc = some r ∧ F_Mod_whole sm = some (r, sm2) ∧ R sc2 sm2 ∧ sc = sc2
def xz_step_points (R : XS → XS → Prop) : Prop := ∀ (sc sm : XS) (x1 : Int32), R sc sm → ∃ (r : Int32) (sc2 sm2 : XS), F_All_points x1 sc = some (r, sc2) ∧ F_Mod_points x1 sm = some (r, sm2) ∧ R sc2 sm2
def xz_step_lamps (R : XS → XS → Prop) : Prop := ∀ (sc sm : XS), R sc sm → ∃ (r : Int32) (sc2 sm2 : XS), F_All_lamps sc = some r ∧ F_Mod_lamps sm = some r ∧ R sc2 sm2 ∧ sc = sc2 ∧ sm = sm2
def xz_step_where (R : XS → XS → Prop) : Prop := ∀ (sc sm : XS) (x1 : Int32), R sc sm → ∃ (r : Int32) (sc2 sm2 : XS), F_All_where x1 sc = some (r, sc2) ∧ F_Mod_where x1 sm = some (r, sm2) ∧ R sc2 sm2
def xz_step_together (R : XS → XS → Prop) : Prop := ∀ (sc sm : XS) (x1 : Int32), R sc sm → ∃ (r : Int32) (sc2 sm2 : XS), F_All_together x1 sc = some (r, sc2) ∧ F_Mod_together x1 sm = some (r, sm2) ∧ R sc2 sm2
def xz_step_steps (R : XS → XS → Prop) : Prop := ∀ (sc sm : XS) (x1 x2 : Int32), R sc sm → ∃ (r : Int32) (sc2 sm2 : XS), F_All_steps x1 x2 sc = some (r, sc2) ∧ F_Mod_steps x1 x2 sm = some (r, sm2) ∧ R sc2 sm2
def xz_step_next (R : XS → XS → Prop) : Prop := ∀ (sc sm : XS) (x1 x2 x3 x4 : Int32), R sc sm → ∃ (r : Int32) (sc2 sm2 : XS), F_All_next x1 x2 x3 x4 sc = some (r, sc2) ∧ F_Mod_next x1 x2 x3 x4 sm = some (r, sm2) ∧ R sc2 sm2
def xz_step_through (R : XS → XS → Prop) : Prop := ∀ (sc sm : XS) (x1 x2 x3 : Int32), R sc sm → ∃ (r : Int32) (sc2 sm2 : XS), F_All_through x1 x2 x3 sc = some (r, sc2) ∧ F_Mod_through x1 x2 x3 sm = some (r, sm2) ∧ R sc2 sm2
def xz_step_spare (R : XS → XS → Prop) : Prop := ∀ (sc sm : XS) (x1 x2 : Int32), R sc sm → ∃ (r : Int32) (sc2 sm2 : XS), F_All_spare x1 x2 sc = some (r, sc2) ∧ F_Mod_spare x1 x2 sm = some (r, sm2) ∧ R sc2 sm2
def xz_step_most (R : XS → XS → Prop) : Prop := ∀ (sc sm : XS) (x1 x2 : Int32), R sc sm → ∃ (r : Int32) (sc2 sm2 : XS), F_All_most x1 x2 sc = some (r, sc2) ∧ F_Mod_most x1 x2 sm = some (r, sm2) ∧ R sc2 sm2
def xz_step_fear (R : XS → XS → Prop) : Prop := ∀ (sc sm : XS) (x1 x2 : Int32), R sc sm → ∃ (r : Int32) (sc2 sm2 : XS), F_All_fear x1 x2 sc = some (r, sc2) ∧ F_Mod_fear x1 x2 sm = some (r, sm2) ∧ R sc2 sm2
def xz_step_taken (R : XS → XS → Prop) : Prop := ∀ (sc sm : XS) (x1 : Int32), R sc sm → ∃ (r : Int32) (sc2 sm2 : XS), F_All_taken x1 sc = some (r, sc2) ∧ F_Mod_taken x1 sm = some (r, sm2) ∧ R sc2 sm2
def xz_step_row (R : XS → XS → Prop) : Prop := ∀ (sc sm : XS) (x1 : Int32), R sc sm → ∃ (r : Int32) (sc2 sm2 : XS), F_All_row x1 sc = some (r, sc2) ∧ F_Mod_row x1 sm = some (r, sm2) ∧ R sc2 sm2
def xz_step_judge (R : XS → XS → Prop) : Prop := ∀ (sc sm : XS), R sc sm → ∃ (r : Int32) (sc2 sm2 : XS), F_All_judge sc = some (r, sc2) ∧ F_Mod_judge sm = some (r, sm2) ∧ R sc2 sm2
def xz_step_seeds (R : XS → XS → Prop) : Prop := ∀ (sc sm : XS) (x1 x2 : Int32), R sc sm → ∃ (r : Int32) (sc2 sm2 : XS), F_All_seeds x1 x2 sc = some (r, sc2) ∧ F_Mod_seeds x1 x2 sm = some (r, sm2) ∧ R sc2 sm2
def xz_step_image (R : XS → XS → Prop) : Prop := ∀ (sc sm : XS), R sc sm → ∃ (r : Int32) (sc2 sm2 : XS), F_All_image sc = some (r, sc2) ∧ F_Mod_image sm = some (r, sm2) ∧ R sc2 sm2
def xz_step_on (R : XS → XS → Prop) : Prop := ∀ (sc sm : XS), R sc sm → ∃ (r : Int32) (sc2 sm2 : XS), F_All_on sc = some (r, sc2) ∧ F_Mod_on sm = some (r, sm2) ∧ R sc2 sm2
def xz_step_count (R : XS → XS → Prop) : Prop := ∀ (sc sm : XS) (x1 : Int32), R sc sm → ∃ (r : Int32) (sc2 sm2 : XS), F_All_count x1 sc = some r ∧ F_Mod_count x1 sm = some r ∧ R sc2 sm2 ∧ sc = sc2 ∧ sm = sm2
def xz_steps (R : XS → XS → Prop) : Prop := xz_step_letter R ∧ xz_step_town R ∧ xz_step_street R ∧ xz_step_plot R ∧ xz_step_crossing R ∧ xz_step_quarters R ∧ xz_step_open R ∧ xz_step_with R ∧ xz_step_corners R ∧ xz_step_sides R ∧ xz_step_isOpen R ∧ xz_step_whole R ∧ xz_step_points R ∧ xz_step_lamps R ∧ xz_step_where R ∧ xz_step_together R ∧ xz_step_steps R ∧ xz_step_next R ∧ xz_step_through R ∧ xz_step_spare R ∧ xz_step_most R ∧ xz_step_fear R ∧ xz_step_taken R ∧ xz_step_row R ∧ xz_step_judge R ∧ xz_step_seeds R ∧ xz_step_image R ∧ xz_step_on R ∧ xz_step_count R
section XLW
variable {p : Program} {l : Launch} {e : Env} {R : Room} {s : State} {m : MethodId} {args : Array Value} {below : List Frame} {meth : Method} {c : Code} {H : Heap} {locs : List Loc} {cells slots : Nat} {Q : State → Prop}
variable {D : va_G} {cI cZ : ClassId} {A A0 : Nat → Prop} {w : XS → va_W} {st9 : XS} {pc : Nat} {rest stk : List Value} {ls : Array Slot}
theorem xk_lawI {wo : va_W} {r9 : Int32} {a9 : Array Value} (hPo : va_P D classes wo H) (hno : ∀ (k : Nat) (x : Nat × va_E), wo[k]? = some x → ¬ A x.1) (hr : va_Run p l e R s m args below meth c H locs cells slots 0 0 (F0 m pc ls stk) rest (va_Qi (fun (r : Int32) (u : XS) => r = r9 ∧ u = st9) (fun u t => va_P D classes (w u) t.heap) A a9) A) (hAA : ∀ q, A q → A0 q) (hS : va_S A0 s.heap H locs)
    (kk : ∀ (H1 : Heap) (locs1 : List Loc), va_P D classes (w st9) H1 → va_P D classes wo H1 → va_S A0 s.heap H1 locs1 → W p l e R s m args below meth c H1 locs1 cells slots Q (F0 m (pc + 3) ls (.int r9 :: rest))) : W p l e R s m args below meth c H locs cells slots Q (F0 m pc ls stk) :=
  va_calli hr hS (fun q _ h => hAA q h) hAA (fun r u t H1 locs1 ht _ hw hB _ hk hS => by
    obtain ⟨rfl, rfl⟩ := hw
    rw [ht] at hB
    exact kk H1 locs1 hB (hPo.kept (fun k x hx => hk x.1 (hPo k x hx).lt (hno k x hx))) hS)
theorem xk_Pl {w1 w2 : va_W} (h : va_P D classes (w1 ++ w2) H) : va_P D classes w1 H := fun k q hq => h k q (by rw [List.getElem?_append_left (List.getElem?_eq_some_iff.mp hq).1]; exact hq)
theorem xk_Pr {w1 w2 : va_W} (h : va_P D classes (w1 ++ w2) H) : va_P D classes w2 H := fun k q hq => h (w1.length + k) q (by rw [List.getElem?_append_right (by omega)]; simpa using hq)
theorem xk_Dl {w1 w2 : va_W} (h : va_D A (w1 ++ w2)) : va_D A w1 := ⟨fun i j p q hp hq => h.1 i j p q (by rw [List.getElem?_append_left (List.getElem?_eq_some_iff.mp hp).1]; exact hp) (by rw [List.getElem?_append_left (List.getElem?_eq_some_iff.mp hq).1]; exact hq), fun k q hq => h.2 k q (by rw [List.getElem?_append_left (List.getElem?_eq_some_iff.mp hq).1]; exact hq)⟩
theorem xk_Dr {w1 w2 : va_W} (h : va_D A (w1 ++ w2)) : va_D A w2 := ⟨fun i j p q hp hq e => by
    have := h.1 (w1.length + i) (w1.length + j) p q (by rw [List.getElem?_append_right (by omega)]; simpa using hp) (by rw [List.getElem?_append_right (by omega)]; simpa using hq) e
    omega, fun k q hq => h.2 (w1.length + k) q (by rw [List.getElem?_append_right (by omega)]; simpa using hq)⟩
theorem xk_Dx {w1 w2 : va_W} (h : va_D A (w1 ++ w2)) {i j : Nat} {p q : Nat × va_E} (hp : w1[i]? = some p) (hq : w2[j]? = some q) : p.1 ≠ q.1 := fun e => by
  have hi := (List.getElem?_eq_some_iff.mp hp).1
  have := h.1 i (w1.length + j) p q (by rw [List.getElem?_append_left hi]; exact hp) (by rw [List.getElem?_append_right (by omega)]; simpa using hq) e
  omega
theorem xk_no {ws : va_W} {B : Nat → Prop} (h : ∀ a ∈ ws.map (fun q => q.1), ¬ B a) : ∀ (k : Nat) (x : Nat × va_E), ws[k]? = some x → ¬ B x.1 := fun k x hx => h _ (List.mem_map.mpr ⟨x, List.mem_of_getElem? hx, rfl⟩)
end XLW
theorem xk_ixin {i L : Nat} (hi : i + 5 ≤ L) (hL : L ≤ 2560) (j : Nat) (hj : j < 5) : vp_in (nI i + Int32.ofNat j) L := by
  have h : nI i + Int32.ofNat j = nI (i + j) := nI_add i j
  rw [h]
  exact vp_in_nI (by omega) (by omega)
theorem xk_ixcl {i L : Nat} (hi : i + 5 ≤ L) (hL : L ≤ 2560) (j : Nat) (hj : j < 5) : (nI i + Int32.ofNat j).toNatClampNeg = i + j := by
  have h : nI i + Int32.ofNat j = nI (i + j) := nI_add i j
  rw [h]
  exact nI_clamp (by omega)
set_option maxHeartbeats 4000000 in
set_option maxRecDepth 100000 in
theorem xz_case_letter {p : Program} {e : Env} {s : State} {m : MethodId} {below : List Frame} {meth : Method} {c : Code} {l : Launch} {b L : Nat} {xs : Nat → Int32} {D : va_G} {cI cZ : ClassId} {adC adM adK adV : Nat → Nat} {RR : XS → XS → Prop} (hL : L ≤ 2560) (C0 : lw_At p s m meth c b L xs) (hK : va_K D classes (xk_tys cI cZ) s) (hE : xk_E (fun q => s.heap.size ≤ q) adK adV s) (hDC : ∀ st : XS, va_D (xk_AC adC) (xw_C adC cI cZ st)) (hDM : ∀ st : XS, va_D (xk_AM adM) (xw_M adM cI cZ st)) (hAC : ∀ q, xk_AC adC q → s.heap.size ≤ q) (hAM : ∀ q, xk_AM adM q → s.heap.size ≤ q) (hdj : ∀ q, xk_AC adC q → xk_AM adM q → False) (hq : xz_step_letter RR) {i : Nat} (hi : i + 5 ≤ L) {sc sm : XS} (hR : RR sc sm) {H : Heap} {locs : List Loc} {ls : Array Slot} (hPC : va_P D classes (xw_C adC cI cZ sc) H) (hPM : va_P D classes (xw_M adM cI cZ sm) H) (hS : va_S (fun q => s.heap.size ≤ q) s.heap H locs) (hl : lv_has ls 4 [(0, .ref b), (1, .ref (adC 0)), (2, .ref (adM 0)), (3, .int (nI i))]) (kk : ∀ (sc2 sm2 : XS) (H : Heap) (locs : List Loc) (ls : Array Slot), RR sc2 sm2 → va_P D classes (xw_C adC cI cZ sc2) H → va_P D classes (xw_M adM cI cZ sm2) H → va_S (fun q => s.heap.size ≤ q) s.heap H locs → lv_has ls 4 [(0, .ref b), (1, .ref (adC 0)), (2, .ref (adM 0)), (3, .int (nI i))] → W p l e room_1 s m #[Value.ref b] below meth c H locs 48 893 (lw_Z below #[Value.ref b] s) (F0 m 891 ls [])) : W p l e room_1 s m #[Value.ref b] below meth c H locs 48 893 (lw_Z below #[Value.ref b] s) (F0 m 164 ls []) := by
  obtain ⟨hx, hb, hr, hml, hown, hts0, hX, hbl, hlocks, hgv⟩ := C0
  have hts : ∀ w ∈ gd_tbl, w.before #[Value.ref b] s = true := fun w h => hts0 w (good_tbl w h).1
  have hbA : ¬ (fun q : Nat => s.heap.size ≤ q) b := Nat.not_le.mpr hbl
  obtain ⟨r, sc2, sm2, h1, h2, hR2⟩ := hq sc sm (xs (i + 1)) hR
  refine lv_aload_n hx hb d_Law_law_164 rfl (lv_at hl 1 rfl) ?_
  refine lv_aload_n hx hb d_Law_law_165 rfl (lv_at hl 0 rfl) ?_
  refine lv_iload_n hx hb d_Law_law_166 rfl (lv_at hl 3 rfl) ?_
  refine lv_iconst (v := (1 : Int32)) hx hb d_Law_law_167 (by decide) ?_
  refine lv_iadd hx hb d_Law_law_168 ?_
  refine va_sld hx hb hX hbl hbA hS (xk_ixin hi hL 1 (by omega)) d_Law_law_169 ?_
  rw [show (nI i + (1 : Int32)).toNatClampNeg = i + 1 from xk_ixcl hi hL 1 (by omega)]
  refine xk_lawI hPM (xk_no (by rw [xw_M_ads]; exact fun a ha hc => hdj a hc ha)) (xk_runV (As := [.int (xs (i + 1))]) (rest := []) hx hb hml hown hts hK hE hAC hPC hS ok_All_letter in_All_letter u_262 (c_All_letter l D cI cZ adC (xk_AC adC) adK adV hDC (xs (i + 1)) sc r sc2 h1) (va_recv hK hPC (ci := 3) (q0 := 0) rfl xw_C_at_0) (by decide) rfl hl.1 rfl (Nat.le_of_ble_eq_true rfl) d_Law_law_170 ⟨by decide, by decide⟩) hAC hS (fun H locs hPC hPM hS => ?_)
  refine lv_aload_n hx hb d_Law_law_173 rfl (lv_at hl 2 rfl) ?_
  refine lv_aload_n hx hb d_Law_law_174 rfl (lv_at hl 0 rfl) ?_
  refine lv_iload_n hx hb d_Law_law_175 rfl (lv_at hl 3 rfl) ?_
  refine lv_iconst (v := (1 : Int32)) hx hb d_Law_law_176 (by decide) ?_
  refine lv_iadd hx hb d_Law_law_177 ?_
  refine va_sld hx hb hX hbl hbA hS (xk_ixin hi hL 1 (by omega)) d_Law_law_178 ?_
  rw [show (nI i + (1 : Int32)).toNatClampNeg = i + 1 from xk_ixcl hi hL 1 (by omega)]
  refine xk_lawI hPC (xk_no (by rw [xw_C_ads]; exact fun a ha hc => hdj a ha hc)) (xk_runV (As := [.int (xs (i + 1))]) (rest := [.int r]) hx hb hml hown hts hK hE hAM hPM hS ok_Mod_letter in_Mod_letter u_737 (c_Mod_letter l D cI cZ adM (xk_AM adM) adK adV hDM (xs (i + 1)) sm r sm2 h2) (va_recv hK hPM (ci := 4) (q0 := 0) rfl xw_M_at_0) (by decide) rfl hl.1 rfl (Nat.le_of_ble_eq_true rfl) d_Law_law_179 ⟨by decide, by decide⟩) hAM hS (fun H locs hPM hPC hS => ?_)
  refine lv_icmp_eq (tgt := 891) hx hb d_Law_law_182 (by decide) (fun _ => ?_) (fun h => absurd rfl h)
  exact kk _ _ H locs ls hR2 hPC hPM hS hl
set_option maxHeartbeats 4000000 in
set_option maxRecDepth 100000 in
theorem xz_case_town {p : Program} {e : Env} {s : State} {m : MethodId} {below : List Frame} {meth : Method} {c : Code} {l : Launch} {b L : Nat} {xs : Nat → Int32} {D : va_G} {cI cZ : ClassId} {adC adM adK adV : Nat → Nat} {RR : XS → XS → Prop} (hL : L ≤ 2560) (C0 : lw_At p s m meth c b L xs) (hK : va_K D classes (xk_tys cI cZ) s) (hE : xk_E (fun q => s.heap.size ≤ q) adK adV s) (hDC : ∀ st : XS, va_D (xk_AC adC) (xw_C adC cI cZ st)) (hDM : ∀ st : XS, va_D (xk_AM adM) (xw_M adM cI cZ st)) (hAC : ∀ q, xk_AC adC q → s.heap.size ≤ q) (hAM : ∀ q, xk_AM adM q → s.heap.size ≤ q) (hdj : ∀ q, xk_AC adC q → xk_AM adM q → False) (hq : xz_step_town RR) {i : Nat} (hi : i + 5 ≤ L) {sc sm : XS} (hR : RR sc sm) {H : Heap} {locs : List Loc} {ls : Array Slot} (hPC : va_P D classes (xw_C adC cI cZ sc) H) (hPM : va_P D classes (xw_M adM cI cZ sm) H) (hS : va_S (fun q => s.heap.size ≤ q) s.heap H locs) (hl : lv_has ls 4 [(0, .ref b), (1, .ref (adC 0)), (2, .ref (adM 0)), (3, .int (nI i))]) (kk : ∀ (sc2 sm2 : XS) (H : Heap) (locs : List Loc) (ls : Array Slot), RR sc2 sm2 → va_P D classes (xw_C adC cI cZ sc2) H → va_P D classes (xw_M adM cI cZ sm2) H → va_S (fun q => s.heap.size ≤ q) s.heap H locs → lv_has ls 4 [(0, .ref b), (1, .ref (adC 0)), (2, .ref (adM 0)), (3, .int (nI i))] → W p l e room_1 s m #[Value.ref b] below meth c H locs 48 893 (lw_Z below #[Value.ref b] s) (F0 m 891 ls [])) : W p l e room_1 s m #[Value.ref b] below meth c H locs 48 893 (lw_Z below #[Value.ref b] s) (F0 m 187 ls []) := by
  obtain ⟨hx, hb, hr, hml, hown, hts0, hX, hbl, hlocks, hgv⟩ := C0
  have hts : ∀ w ∈ gd_tbl, w.before #[Value.ref b] s = true := fun w h => hts0 w (good_tbl w h).1
  have hbA : ¬ (fun q : Nat => s.heap.size ≤ q) b := Nat.not_le.mpr hbl
  obtain ⟨r, sc2, sm2, h1, h2, hR2⟩ := hq sc sm  hR
  refine lv_aload_n hx hb d_Law_law_187 rfl (lv_at hl 1 rfl) ?_
  refine xk_lawI hPM (xk_no (by rw [xw_M_ads]; exact fun a ha hc => hdj a hc ha)) (xk_runV (As := []) (rest := []) hx hb hml hown hts hK hE hAC hPC hS ok_All_town in_All_town u_279 (c_All_town l D cI cZ adC (xk_AC adC) adK adV hDC  sc r sc2 h1) (va_recv hK hPC (ci := 3) (q0 := 0) rfl xw_C_at_0) (by decide) rfl hl.1 rfl (Nat.le_of_ble_eq_true rfl) d_Law_law_188 ⟨by decide, by decide⟩) hAC hS (fun H locs hPC hPM hS => ?_)
  refine lv_aload_n hx hb d_Law_law_191 rfl (lv_at hl 2 rfl) ?_
  refine xk_lawI hPC (xk_no (by rw [xw_C_ads]; exact fun a ha hc => hdj a ha hc)) (xk_runV (As := []) (rest := [.int r]) hx hb hml hown hts hK hE hAM hPM hS ok_Mod_town in_Mod_town u_745 (c_Mod_town l D cI cZ adM (xk_AM adM) adK adV hDM  sm r sm2 h2) (va_recv hK hPM (ci := 4) (q0 := 0) rfl xw_M_at_0) (by decide) rfl hl.1 rfl (Nat.le_of_ble_eq_true rfl) d_Law_law_192 ⟨by decide, by decide⟩) hAM hS (fun H locs hPM hPC hS => ?_)
  refine lv_icmp_eq (tgt := 891) hx hb d_Law_law_195 (by decide) (fun _ => ?_) (fun h => absurd rfl h)
  exact kk _ _ H locs ls hR2 hPC hPM hS hl
set_option maxHeartbeats 4000000 in
set_option maxRecDepth 100000 in
theorem xz_case_street {p : Program} {e : Env} {s : State} {m : MethodId} {below : List Frame} {meth : Method} {c : Code} {l : Launch} {b L : Nat} {xs : Nat → Int32} {D : va_G} {cI cZ : ClassId} {adC adM adK adV : Nat → Nat} {RR : XS → XS → Prop} (hL : L ≤ 2560) (C0 : lw_At p s m meth c b L xs) (hK : va_K D classes (xk_tys cI cZ) s) (hE : xk_E (fun q => s.heap.size ≤ q) adK adV s) (hDC : ∀ st : XS, va_D (xk_AC adC) (xw_C adC cI cZ st)) (hDM : ∀ st : XS, va_D (xk_AM adM) (xw_M adM cI cZ st)) (hAC : ∀ q, xk_AC adC q → s.heap.size ≤ q) (hAM : ∀ q, xk_AM adM q → s.heap.size ≤ q) (hdj : ∀ q, xk_AC adC q → xk_AM adM q → False) (hq : xz_step_street RR) {i : Nat} (hi : i + 5 ≤ L) {sc sm : XS} (hR : RR sc sm) {H : Heap} {locs : List Loc} {ls : Array Slot} (hPC : va_P D classes (xw_C adC cI cZ sc) H) (hPM : va_P D classes (xw_M adM cI cZ sm) H) (hS : va_S (fun q => s.heap.size ≤ q) s.heap H locs) (hl : lv_has ls 4 [(0, .ref b), (1, .ref (adC 0)), (2, .ref (adM 0)), (3, .int (nI i))]) (kk : ∀ (sc2 sm2 : XS) (H : Heap) (locs : List Loc) (ls : Array Slot), RR sc2 sm2 → va_P D classes (xw_C adC cI cZ sc2) H → va_P D classes (xw_M adM cI cZ sm2) H → va_S (fun q => s.heap.size ≤ q) s.heap H locs → lv_has ls 4 [(0, .ref b), (1, .ref (adC 0)), (2, .ref (adM 0)), (3, .int (nI i))] → W p l e room_1 s m #[Value.ref b] below meth c H locs 48 893 (lw_Z below #[Value.ref b] s) (F0 m 891 ls [])) : W p l e room_1 s m #[Value.ref b] below meth c H locs 48 893 (lw_Z below #[Value.ref b] s) (F0 m 200 ls []) := by
  obtain ⟨hx, hb, hr, hml, hown, hts0, hX, hbl, hlocks, hgv⟩ := C0
  have hts : ∀ w ∈ gd_tbl, w.before #[Value.ref b] s = true := fun w h => hts0 w (good_tbl w h).1
  have hbA : ¬ (fun q : Nat => s.heap.size ≤ q) b := Nat.not_le.mpr hbl
  obtain ⟨r, sc2, sm2, h1, h2, hR2⟩ := hq sc sm (xs (i + 1)) (xs (i + 2)) hR
  refine lv_aload_n hx hb d_Law_law_200 rfl (lv_at hl 1 rfl) ?_
  refine lv_aload_n hx hb d_Law_law_201 rfl (lv_at hl 0 rfl) ?_
  refine lv_iload_n hx hb d_Law_law_202 rfl (lv_at hl 3 rfl) ?_
  refine lv_iconst (v := (1 : Int32)) hx hb d_Law_law_203 (by decide) ?_
  refine lv_iadd hx hb d_Law_law_204 ?_
  refine va_sld hx hb hX hbl hbA hS (xk_ixin hi hL 1 (by omega)) d_Law_law_205 ?_
  rw [show (nI i + (1 : Int32)).toNatClampNeg = i + 1 from xk_ixcl hi hL 1 (by omega)]
  refine lv_aload_n hx hb d_Law_law_206 rfl (lv_at hl 0 rfl) ?_
  refine lv_iload_n hx hb d_Law_law_207 rfl (lv_at hl 3 rfl) ?_
  refine lv_iconst (v := (2 : Int32)) hx hb d_Law_law_208 (by decide) ?_
  refine lv_iadd hx hb d_Law_law_209 ?_
  refine va_sld hx hb hX hbl hbA hS (xk_ixin hi hL 2 (by omega)) d_Law_law_210 ?_
  rw [show (nI i + (2 : Int32)).toNatClampNeg = i + 2 from xk_ixcl hi hL 2 (by omega)]
  refine xk_lawI hPM (xk_no (by rw [xw_M_ads]; exact fun a ha hc => hdj a hc ha)) (xk_runV (As := [.int (xs (i + 1)), .int (xs (i + 2))]) (rest := []) hx hb hml hown hts hK hE hAC hPC hS ok_All_street in_All_street u_426 (c_All_street l D cI cZ adC (xk_AC adC) adK adV hDC (xs (i + 1)) (xs (i + 2)) sc r sc2 h1) (va_recv hK hPC (ci := 3) (q0 := 0) rfl xw_C_at_0) (by decide) rfl hl.1 rfl (Nat.le_of_ble_eq_true rfl) d_Law_law_211 ⟨by decide, by decide⟩) hAC hS (fun H locs hPC hPM hS => ?_)
  refine lv_aload_n hx hb d_Law_law_214 rfl (lv_at hl 2 rfl) ?_
  refine lv_aload_n hx hb d_Law_law_215 rfl (lv_at hl 0 rfl) ?_
  refine lv_iload_n hx hb d_Law_law_216 rfl (lv_at hl 3 rfl) ?_
  refine lv_iconst (v := (1 : Int32)) hx hb d_Law_law_217 (by decide) ?_
  refine lv_iadd hx hb d_Law_law_218 ?_
  refine va_sld hx hb hX hbl hbA hS (xk_ixin hi hL 1 (by omega)) d_Law_law_219 ?_
  rw [show (nI i + (1 : Int32)).toNatClampNeg = i + 1 from xk_ixcl hi hL 1 (by omega)]
  refine lv_aload_n hx hb d_Law_law_220 rfl (lv_at hl 0 rfl) ?_
  refine lv_iload_n hx hb d_Law_law_221 rfl (lv_at hl 3 rfl) ?_
  refine lv_iconst (v := (2 : Int32)) hx hb d_Law_law_222 (by decide) ?_
  refine lv_iadd hx hb d_Law_law_223 ?_
  refine va_sld hx hb hX hbl hbA hS (xk_ixin hi hL 2 (by omega)) d_Law_law_224 ?_
  rw [show (nI i + (2 : Int32)).toNatClampNeg = i + 2 from xk_ixcl hi hL 2 (by omega)]
  refine xk_lawI hPC (xk_no (by rw [xw_C_ads]; exact fun a ha hc => hdj a ha hc)) (xk_runV (As := [.int (xs (i + 1)), .int (xs (i + 2))]) (rest := [.int r]) hx hb hml hown hts hK hE hAM hPM hS ok_Mod_street in_Mod_street u_782 (c_Mod_street l D cI cZ adM (xk_AM adM) adK adV hDM (xs (i + 1)) (xs (i + 2)) sm r sm2 h2) (va_recv hK hPM (ci := 4) (q0 := 0) rfl xw_M_at_0) (by decide) rfl hl.1 rfl (Nat.le_of_ble_eq_true rfl) d_Law_law_225 ⟨by decide, by decide⟩) hAM hS (fun H locs hPM hPC hS => ?_)
  refine lv_icmp_eq (tgt := 891) hx hb d_Law_law_228 (by decide) (fun _ => ?_) (fun h => absurd rfl h)
  exact kk _ _ H locs ls hR2 hPC hPM hS hl
set_option maxHeartbeats 4000000 in
set_option maxRecDepth 100000 in
theorem xz_case_plot {p : Program} {e : Env} {s : State} {m : MethodId} {below : List Frame} {meth : Method} {c : Code} {l : Launch} {b L : Nat} {xs : Nat → Int32} {D : va_G} {cI cZ : ClassId} {adC adM adK adV : Nat → Nat} {RR : XS → XS → Prop} (hL : L ≤ 2560) (C0 : lw_At p s m meth c b L xs) (hK : va_K D classes (xk_tys cI cZ) s) (hE : xk_E (fun q => s.heap.size ≤ q) adK adV s) (hDC : ∀ st : XS, va_D (xk_AC adC) (xw_C adC cI cZ st)) (hDM : ∀ st : XS, va_D (xk_AM adM) (xw_M adM cI cZ st)) (hAC : ∀ q, xk_AC adC q → s.heap.size ≤ q) (hAM : ∀ q, xk_AM adM q → s.heap.size ≤ q) (hdj : ∀ q, xk_AC adC q → xk_AM adM q → False) (hq : xz_step_plot RR) {i : Nat} (hi : i + 5 ≤ L) {sc sm : XS} (hR : RR sc sm) {H : Heap} {locs : List Loc} {ls : Array Slot} (hPC : va_P D classes (xw_C adC cI cZ sc) H) (hPM : va_P D classes (xw_M adM cI cZ sm) H) (hS : va_S (fun q => s.heap.size ≤ q) s.heap H locs) (hl : lv_has ls 4 [(0, .ref b), (1, .ref (adC 0)), (2, .ref (adM 0)), (3, .int (nI i))]) (kk : ∀ (sc2 sm2 : XS) (H : Heap) (locs : List Loc) (ls : Array Slot), RR sc2 sm2 → va_P D classes (xw_C adC cI cZ sc2) H → va_P D classes (xw_M adM cI cZ sm2) H → va_S (fun q => s.heap.size ≤ q) s.heap H locs → lv_has ls 4 [(0, .ref b), (1, .ref (adC 0)), (2, .ref (adM 0)), (3, .int (nI i))] → W p l e room_1 s m #[Value.ref b] below meth c H locs 48 893 (lw_Z below #[Value.ref b] s) (F0 m 891 ls [])) : W p l e room_1 s m #[Value.ref b] below meth c H locs 48 893 (lw_Z below #[Value.ref b] s) (F0 m 233 ls []) := by
  obtain ⟨hx, hb, hr, hml, hown, hts0, hX, hbl, hlocks, hgv⟩ := C0
  have hts : ∀ w ∈ gd_tbl, w.before #[Value.ref b] s = true := fun w h => hts0 w (good_tbl w h).1
  have hbA : ¬ (fun q : Nat => s.heap.size ≤ q) b := Nat.not_le.mpr hbl
  obtain ⟨r, sc2, sm2, h1, h2, hR2⟩ := hq sc sm (xs (i + 1)) (xs (i + 2)) hR
  refine lv_aload_n hx hb d_Law_law_233 rfl (lv_at hl 1 rfl) ?_
  refine lv_aload_n hx hb d_Law_law_234 rfl (lv_at hl 0 rfl) ?_
  refine lv_iload_n hx hb d_Law_law_235 rfl (lv_at hl 3 rfl) ?_
  refine lv_iconst (v := (1 : Int32)) hx hb d_Law_law_236 (by decide) ?_
  refine lv_iadd hx hb d_Law_law_237 ?_
  refine va_sld hx hb hX hbl hbA hS (xk_ixin hi hL 1 (by omega)) d_Law_law_238 ?_
  rw [show (nI i + (1 : Int32)).toNatClampNeg = i + 1 from xk_ixcl hi hL 1 (by omega)]
  refine lv_aload_n hx hb d_Law_law_239 rfl (lv_at hl 0 rfl) ?_
  refine lv_iload_n hx hb d_Law_law_240 rfl (lv_at hl 3 rfl) ?_
  refine lv_iconst (v := (2 : Int32)) hx hb d_Law_law_241 (by decide) ?_
  refine lv_iadd hx hb d_Law_law_242 ?_
  refine va_sld hx hb hX hbl hbA hS (xk_ixin hi hL 2 (by omega)) d_Law_law_243 ?_
  rw [show (nI i + (2 : Int32)).toNatClampNeg = i + 2 from xk_ixcl hi hL 2 (by omega)]
  refine xk_lawI hPM (xk_no (by rw [xw_M_ads]; exact fun a ha hc => hdj a hc ha)) (xk_runV (As := [.int (xs (i + 1)), .int (xs (i + 2))]) (rest := []) hx hb hml hown hts hK hE hAC hPC hS ok_All_plot in_All_plot u_457 (c_All_plot l D cI cZ adC (xk_AC adC) adK adV hDC (xs (i + 1)) (xs (i + 2)) sc r sc2 h1) (va_recv hK hPC (ci := 3) (q0 := 0) rfl xw_C_at_0) (by decide) rfl hl.1 rfl (Nat.le_of_ble_eq_true rfl) d_Law_law_244 ⟨by decide, by decide⟩) hAC hS (fun H locs hPC hPM hS => ?_)
  refine lv_aload_n hx hb d_Law_law_247 rfl (lv_at hl 2 rfl) ?_
  refine lv_aload_n hx hb d_Law_law_248 rfl (lv_at hl 0 rfl) ?_
  refine lv_iload_n hx hb d_Law_law_249 rfl (lv_at hl 3 rfl) ?_
  refine lv_iconst (v := (1 : Int32)) hx hb d_Law_law_250 (by decide) ?_
  refine lv_iadd hx hb d_Law_law_251 ?_
  refine va_sld hx hb hX hbl hbA hS (xk_ixin hi hL 1 (by omega)) d_Law_law_252 ?_
  rw [show (nI i + (1 : Int32)).toNatClampNeg = i + 1 from xk_ixcl hi hL 1 (by omega)]
  refine lv_aload_n hx hb d_Law_law_253 rfl (lv_at hl 0 rfl) ?_
  refine lv_iload_n hx hb d_Law_law_254 rfl (lv_at hl 3 rfl) ?_
  refine lv_iconst (v := (2 : Int32)) hx hb d_Law_law_255 (by decide) ?_
  refine lv_iadd hx hb d_Law_law_256 ?_
  refine va_sld hx hb hX hbl hbA hS (xk_ixin hi hL 2 (by omega)) d_Law_law_257 ?_
  rw [show (nI i + (2 : Int32)).toNatClampNeg = i + 2 from xk_ixcl hi hL 2 (by omega)]
  refine xk_lawI hPC (xk_no (by rw [xw_C_ads]; exact fun a ha hc => hdj a ha hc)) (xk_runV (As := [.int (xs (i + 1)), .int (xs (i + 2))]) (rest := [.int r]) hx hb hml hown hts hK hE hAM hPM hS ok_Mod_plot in_Mod_plot u_811 (c_Mod_plot l D cI cZ adM (xk_AM adM) adK adV hDM (xs (i + 1)) (xs (i + 2)) sm r sm2 h2) (va_recv hK hPM (ci := 4) (q0 := 0) rfl xw_M_at_0) (by decide) rfl hl.1 rfl (Nat.le_of_ble_eq_true rfl) d_Law_law_258 ⟨by decide, by decide⟩) hAM hS (fun H locs hPM hPC hS => ?_)
  refine lv_icmp_eq (tgt := 891) hx hb d_Law_law_261 (by decide) (fun _ => ?_) (fun h => absurd rfl h)
  exact kk _ _ H locs ls hR2 hPC hPM hS hl
set_option maxHeartbeats 4000000 in
set_option maxRecDepth 100000 in
theorem xz_case_crossing {p : Program} {e : Env} {s : State} {m : MethodId} {below : List Frame} {meth : Method} {c : Code} {l : Launch} {b L : Nat} {xs : Nat → Int32} {D : va_G} {cI cZ : ClassId} {adC adM adK adV : Nat → Nat} {RR : XS → XS → Prop} (hL : L ≤ 2560) (C0 : lw_At p s m meth c b L xs) (hK : va_K D classes (xk_tys cI cZ) s) (hE : xk_E (fun q => s.heap.size ≤ q) adK adV s) (hDC : ∀ st : XS, va_D (xk_AC adC) (xw_C adC cI cZ st)) (hDM : ∀ st : XS, va_D (xk_AM adM) (xw_M adM cI cZ st)) (hAC : ∀ q, xk_AC adC q → s.heap.size ≤ q) (hAM : ∀ q, xk_AM adM q → s.heap.size ≤ q) (hdj : ∀ q, xk_AC adC q → xk_AM adM q → False) (hq : xz_step_crossing RR) {i : Nat} (hi : i + 5 ≤ L) {sc sm : XS} (hR : RR sc sm) {H : Heap} {locs : List Loc} {ls : Array Slot} (hPC : va_P D classes (xw_C adC cI cZ sc) H) (hPM : va_P D classes (xw_M adM cI cZ sm) H) (hS : va_S (fun q => s.heap.size ≤ q) s.heap H locs) (hl : lv_has ls 4 [(0, .ref b), (1, .ref (adC 0)), (2, .ref (adM 0)), (3, .int (nI i))]) (kk : ∀ (sc2 sm2 : XS) (H : Heap) (locs : List Loc) (ls : Array Slot), RR sc2 sm2 → va_P D classes (xw_C adC cI cZ sc2) H → va_P D classes (xw_M adM cI cZ sm2) H → va_S (fun q => s.heap.size ≤ q) s.heap H locs → lv_has ls 4 [(0, .ref b), (1, .ref (adC 0)), (2, .ref (adM 0)), (3, .int (nI i))] → W p l e room_1 s m #[Value.ref b] below meth c H locs 48 893 (lw_Z below #[Value.ref b] s) (F0 m 891 ls [])) : W p l e room_1 s m #[Value.ref b] below meth c H locs 48 893 (lw_Z below #[Value.ref b] s) (F0 m 266 ls []) := by
  obtain ⟨hx, hb, hr, hml, hown, hts0, hX, hbl, hlocks, hgv⟩ := C0
  have hts : ∀ w ∈ gd_tbl, w.before #[Value.ref b] s = true := fun w h => hts0 w (good_tbl w h).1
  have hbA : ¬ (fun q : Nat => s.heap.size ≤ q) b := Nat.not_le.mpr hbl
  obtain ⟨r, sc2, sm2, h1, h2, hR2⟩ := hq sc sm (xs (i + 1)) (xs (i + 2)) (xs (i + 3)) hR
  refine lv_aload_n hx hb d_Law_law_266 rfl (lv_at hl 1 rfl) ?_
  refine lv_aload_n hx hb d_Law_law_267 rfl (lv_at hl 0 rfl) ?_
  refine lv_iload_n hx hb d_Law_law_268 rfl (lv_at hl 3 rfl) ?_
  refine lv_iconst (v := (1 : Int32)) hx hb d_Law_law_269 (by decide) ?_
  refine lv_iadd hx hb d_Law_law_270 ?_
  refine va_sld hx hb hX hbl hbA hS (xk_ixin hi hL 1 (by omega)) d_Law_law_271 ?_
  rw [show (nI i + (1 : Int32)).toNatClampNeg = i + 1 from xk_ixcl hi hL 1 (by omega)]
  refine lv_aload_n hx hb d_Law_law_272 rfl (lv_at hl 0 rfl) ?_
  refine lv_iload_n hx hb d_Law_law_273 rfl (lv_at hl 3 rfl) ?_
  refine lv_iconst (v := (2 : Int32)) hx hb d_Law_law_274 (by decide) ?_
  refine lv_iadd hx hb d_Law_law_275 ?_
  refine va_sld hx hb hX hbl hbA hS (xk_ixin hi hL 2 (by omega)) d_Law_law_276 ?_
  rw [show (nI i + (2 : Int32)).toNatClampNeg = i + 2 from xk_ixcl hi hL 2 (by omega)]
  refine lv_aload_n hx hb d_Law_law_277 rfl (lv_at hl 0 rfl) ?_
  refine lv_iload_n hx hb d_Law_law_278 rfl (lv_at hl 3 rfl) ?_
  refine lv_iconst (v := (3 : Int32)) hx hb d_Law_law_279 (by decide) ?_
  refine lv_iadd hx hb d_Law_law_280 ?_
  refine va_sld hx hb hX hbl hbA hS (xk_ixin hi hL 3 (by omega)) d_Law_law_281 ?_
  rw [show (nI i + (3 : Int32)).toNatClampNeg = i + 3 from xk_ixcl hi hL 3 (by omega)]
  refine xk_lawI hPM (xk_no (by rw [xw_M_ads]; exact fun a ha hc => hdj a hc ha)) (xk_runV (As := [.int (xs (i + 1)), .int (xs (i + 2)), .int (xs (i + 3))]) (rest := []) hx hb hml hown hts hK hE hAC hPC hS ok_All_crossing in_All_crossing u_465 (c_All_crossing l D cI cZ adC (xk_AC adC) adK adV hDC (xs (i + 1)) (xs (i + 2)) (xs (i + 3)) sc r sc2 h1) (va_recv hK hPC (ci := 3) (q0 := 0) rfl xw_C_at_0) (by decide) rfl hl.1 rfl (Nat.le_of_ble_eq_true rfl) d_Law_law_282 ⟨by decide, by decide⟩) hAC hS (fun H locs hPC hPM hS => ?_)
  refine lv_aload_n hx hb d_Law_law_285 rfl (lv_at hl 2 rfl) ?_
  refine lv_aload_n hx hb d_Law_law_286 rfl (lv_at hl 0 rfl) ?_
  refine lv_iload_n hx hb d_Law_law_287 rfl (lv_at hl 3 rfl) ?_
  refine lv_iconst (v := (1 : Int32)) hx hb d_Law_law_288 (by decide) ?_
  refine lv_iadd hx hb d_Law_law_289 ?_
  refine va_sld hx hb hX hbl hbA hS (xk_ixin hi hL 1 (by omega)) d_Law_law_290 ?_
  rw [show (nI i + (1 : Int32)).toNatClampNeg = i + 1 from xk_ixcl hi hL 1 (by omega)]
  refine lv_aload_n hx hb d_Law_law_291 rfl (lv_at hl 0 rfl) ?_
  refine lv_iload_n hx hb d_Law_law_292 rfl (lv_at hl 3 rfl) ?_
  refine lv_iconst (v := (2 : Int32)) hx hb d_Law_law_293 (by decide) ?_
  refine lv_iadd hx hb d_Law_law_294 ?_
  refine va_sld hx hb hX hbl hbA hS (xk_ixin hi hL 2 (by omega)) d_Law_law_295 ?_
  rw [show (nI i + (2 : Int32)).toNatClampNeg = i + 2 from xk_ixcl hi hL 2 (by omega)]
  refine lv_aload_n hx hb d_Law_law_296 rfl (lv_at hl 0 rfl) ?_
  refine lv_iload_n hx hb d_Law_law_297 rfl (lv_at hl 3 rfl) ?_
  refine lv_iconst (v := (3 : Int32)) hx hb d_Law_law_298 (by decide) ?_
  refine lv_iadd hx hb d_Law_law_299 ?_
  refine va_sld hx hb hX hbl hbA hS (xk_ixin hi hL 3 (by omega)) d_Law_law_300 ?_
  rw [show (nI i + (3 : Int32)).toNatClampNeg = i + 3 from xk_ixcl hi hL 3 (by omega)]
  refine xk_lawI hPC (xk_no (by rw [xw_C_ads]; exact fun a ha hc => hdj a ha hc)) (xk_runV (As := [.int (xs (i + 1)), .int (xs (i + 2)), .int (xs (i + 3))]) (rest := [.int r]) hx hb hml hown hts hK hE hAM hPM hS ok_Mod_crossing in_Mod_crossing u_819 (c_Mod_crossing l D cI cZ adM (xk_AM adM) adK adV hDM (xs (i + 1)) (xs (i + 2)) (xs (i + 3)) sm r sm2 h2) (va_recv hK hPM (ci := 4) (q0 := 0) rfl xw_M_at_0) (by decide) rfl hl.1 rfl (Nat.le_of_ble_eq_true rfl) d_Law_law_301 ⟨by decide, by decide⟩) hAM hS (fun H locs hPM hPC hS => ?_)
  refine lv_icmp_eq (tgt := 891) hx hb d_Law_law_304 (by decide) (fun _ => ?_) (fun h => absurd rfl h)
  exact kk _ _ H locs ls hR2 hPC hPM hS hl
set_option maxHeartbeats 4000000 in
set_option maxRecDepth 100000 in
theorem xz_case_quarters {p : Program} {e : Env} {s : State} {m : MethodId} {below : List Frame} {meth : Method} {c : Code} {l : Launch} {b L : Nat} {xs : Nat → Int32} {D : va_G} {cI cZ : ClassId} {adC adM adK adV : Nat → Nat} {RR : XS → XS → Prop} (hL : L ≤ 2560) (C0 : lw_At p s m meth c b L xs) (hK : va_K D classes (xk_tys cI cZ) s) (hE : xk_E (fun q => s.heap.size ≤ q) adK adV s) (hDC : ∀ st : XS, va_D (xk_AC adC) (xw_C adC cI cZ st)) (hDM : ∀ st : XS, va_D (xk_AM adM) (xw_M adM cI cZ st)) (hAC : ∀ q, xk_AC adC q → s.heap.size ≤ q) (hAM : ∀ q, xk_AM adM q → s.heap.size ≤ q) (hdj : ∀ q, xk_AC adC q → xk_AM adM q → False) (hq : xz_step_quarters RR) {i : Nat} (hi : i + 5 ≤ L) {sc sm : XS} (hR : RR sc sm) {H : Heap} {locs : List Loc} {ls : Array Slot} (hPC : va_P D classes (xw_C adC cI cZ sc) H) (hPM : va_P D classes (xw_M adM cI cZ sm) H) (hS : va_S (fun q => s.heap.size ≤ q) s.heap H locs) (hl : lv_has ls 4 [(0, .ref b), (1, .ref (adC 0)), (2, .ref (adM 0)), (3, .int (nI i))]) (kk : ∀ (sc2 sm2 : XS) (H : Heap) (locs : List Loc) (ls : Array Slot), RR sc2 sm2 → va_P D classes (xw_C adC cI cZ sc2) H → va_P D classes (xw_M adM cI cZ sm2) H → va_S (fun q => s.heap.size ≤ q) s.heap H locs → lv_has ls 4 [(0, .ref b), (1, .ref (adC 0)), (2, .ref (adM 0)), (3, .int (nI i))] → W p l e room_1 s m #[Value.ref b] below meth c H locs 48 893 (lw_Z below #[Value.ref b] s) (F0 m 891 ls [])) : W p l e room_1 s m #[Value.ref b] below meth c H locs 48 893 (lw_Z below #[Value.ref b] s) (F0 m 309 ls []) := by
  obtain ⟨hx, hb, hr, hml, hown, hts0, hX, hbl, hlocks, hgv⟩ := C0
  have hts : ∀ w ∈ gd_tbl, w.before #[Value.ref b] s = true := fun w h => hts0 w (good_tbl w h).1
  have hbA : ¬ (fun q : Nat => s.heap.size ≤ q) b := Nat.not_le.mpr hbl
  obtain ⟨r, sc2, sm2, h1, h2, hR2, e1⟩ := hq sc sm  hR
  subst e1
  refine lv_aload_n hx hb d_Law_law_309 rfl (lv_at hl 1 rfl) ?_
  refine xk_lawI hPM (xk_no (by rw [xw_M_ads]; exact fun a ha hc => hdj a hc ha)) (xk_runV (As := []) (rest := []) hx hb hml hown hts hK hE hAC hPC hS ok_All_quarters in_All_quarters u_475 (c_All_quarters l D cI cZ adC (xk_AC adC) adK adV hDC  sc r h1) (va_recv hK hPC (ci := 3) (q0 := 0) rfl xw_C_at_0) (by decide) rfl hl.1 rfl (Nat.le_of_ble_eq_true rfl) d_Law_law_310 ⟨by decide, by decide⟩) hAC hS (fun H locs hPC hPM hS => ?_)
  refine lv_aload_n hx hb d_Law_law_313 rfl (lv_at hl 2 rfl) ?_
  refine xk_lawI hPC (xk_no (by rw [xw_C_ads]; exact fun a ha hc => hdj a ha hc)) (xk_runV (As := []) (rest := [.int r]) hx hb hml hown hts hK hE hAM hPM hS ok_Mod_quarters in_Mod_quarters u_824 (c_Mod_quarters l D cI cZ adM (xk_AM adM) adK adV hDM  sm r sm2 h2) (va_recv hK hPM (ci := 4) (q0 := 0) rfl xw_M_at_0) (by decide) rfl hl.1 rfl (Nat.le_of_ble_eq_true rfl) d_Law_law_314 ⟨by decide, by decide⟩) hAM hS (fun H locs hPM hPC hS => ?_)
  refine lv_icmp_eq (tgt := 891) hx hb d_Law_law_317 (by decide) (fun _ => ?_) (fun h => absurd rfl h)
  exact kk _ _ H locs ls hR2 hPC hPM hS hl
set_option maxHeartbeats 4000000 in
set_option maxRecDepth 100000 in
theorem xz_case_open {p : Program} {e : Env} {s : State} {m : MethodId} {below : List Frame} {meth : Method} {c : Code} {l : Launch} {b L : Nat} {xs : Nat → Int32} {D : va_G} {cI cZ : ClassId} {adC adM adK adV : Nat → Nat} {RR : XS → XS → Prop} (hL : L ≤ 2560) (C0 : lw_At p s m meth c b L xs) (hK : va_K D classes (xk_tys cI cZ) s) (hE : xk_E (fun q => s.heap.size ≤ q) adK adV s) (hDC : ∀ st : XS, va_D (xk_AC adC) (xw_C adC cI cZ st)) (hDM : ∀ st : XS, va_D (xk_AM adM) (xw_M adM cI cZ st)) (hAC : ∀ q, xk_AC adC q → s.heap.size ≤ q) (hAM : ∀ q, xk_AM adM q → s.heap.size ≤ q) (hdj : ∀ q, xk_AC adC q → xk_AM adM q → False) (hq : xz_step_open RR) {i : Nat} (hi : i + 5 ≤ L) {sc sm : XS} (hR : RR sc sm) {H : Heap} {locs : List Loc} {ls : Array Slot} (hPC : va_P D classes (xw_C adC cI cZ sc) H) (hPM : va_P D classes (xw_M adM cI cZ sm) H) (hS : va_S (fun q => s.heap.size ≤ q) s.heap H locs) (hl : lv_has ls 4 [(0, .ref b), (1, .ref (adC 0)), (2, .ref (adM 0)), (3, .int (nI i))]) (kk : ∀ (sc2 sm2 : XS) (H : Heap) (locs : List Loc) (ls : Array Slot), RR sc2 sm2 → va_P D classes (xw_C adC cI cZ sc2) H → va_P D classes (xw_M adM cI cZ sm2) H → va_S (fun q => s.heap.size ≤ q) s.heap H locs → lv_has ls 4 [(0, .ref b), (1, .ref (adC 0)), (2, .ref (adM 0)), (3, .int (nI i))] → W p l e room_1 s m #[Value.ref b] below meth c H locs 48 893 (lw_Z below #[Value.ref b] s) (F0 m 891 ls [])) : W p l e room_1 s m #[Value.ref b] below meth c H locs 48 893 (lw_Z below #[Value.ref b] s) (F0 m 322 ls []) := by
  obtain ⟨hx, hb, hr, hml, hown, hts0, hX, hbl, hlocks, hgv⟩ := C0
  have hts : ∀ w ∈ gd_tbl, w.before #[Value.ref b] s = true := fun w h => hts0 w (good_tbl w h).1
  have hbA : ¬ (fun q : Nat => s.heap.size ≤ q) b := Nat.not_le.mpr hbl
  obtain ⟨r, sc2, sm2, h1, h2, hR2, e1⟩ := hq sc sm  hR
  subst e1
  refine lv_aload_n hx hb d_Law_law_322 rfl (lv_at hl 1 rfl) ?_
  refine xk_lawI hPM (xk_no (by rw [xw_M_ads]; exact fun a ha hc => hdj a hc ha)) (xk_runV (As := []) (rest := []) hx hb hml hown hts hK hE hAC hPC hS ok_All_open in_All_open u_485 (c_All_open l D cI cZ adC (xk_AC adC) adK adV hDC  sc r h1) (va_recv hK hPC (ci := 3) (q0 := 0) rfl xw_C_at_0) (by decide) rfl hl.1 rfl (Nat.le_of_ble_eq_true rfl) d_Law_law_323 ⟨by decide, by decide⟩) hAC hS (fun H locs hPC hPM hS => ?_)
  refine lv_aload_n hx hb d_Law_law_326 rfl (lv_at hl 2 rfl) ?_
  refine xk_lawI hPC (xk_no (by rw [xw_C_ads]; exact fun a ha hc => hdj a ha hc)) (xk_runV (As := []) (rest := [.int r]) hx hb hml hown hts hK hE hAM hPM hS ok_Mod_open in_Mod_open u_849 (c_Mod_open l D cI cZ adM (xk_AM adM) adK adV hDM  sm r sm2 h2) (va_recv hK hPM (ci := 4) (q0 := 0) rfl xw_M_at_0) (by decide) rfl hl.1 rfl (Nat.le_of_ble_eq_true rfl) d_Law_law_327 ⟨by decide, by decide⟩) hAM hS (fun H locs hPM hPC hS => ?_)
  refine lv_icmp_eq (tgt := 891) hx hb d_Law_law_330 (by decide) (fun _ => ?_) (fun h => absurd rfl h)
  exact kk _ _ H locs ls hR2 hPC hPM hS hl
set_option maxHeartbeats 4000000 in
set_option maxRecDepth 100000 in
theorem xz_case_with {p : Program} {e : Env} {s : State} {m : MethodId} {below : List Frame} {meth : Method} {c : Code} {l : Launch} {b L : Nat} {xs : Nat → Int32} {D : va_G} {cI cZ : ClassId} {adC adM adK adV : Nat → Nat} {RR : XS → XS → Prop} (hL : L ≤ 2560) (C0 : lw_At p s m meth c b L xs) (hK : va_K D classes (xk_tys cI cZ) s) (hE : xk_E (fun q => s.heap.size ≤ q) adK adV s) (hDC : ∀ st : XS, va_D (xk_AC adC) (xw_C adC cI cZ st)) (hDM : ∀ st : XS, va_D (xk_AM adM) (xw_M adM cI cZ st)) (hAC : ∀ q, xk_AC adC q → s.heap.size ≤ q) (hAM : ∀ q, xk_AM adM q → s.heap.size ≤ q) (hdj : ∀ q, xk_AC adC q → xk_AM adM q → False) (hq : xz_step_with RR) {i : Nat} (hi : i + 5 ≤ L) {sc sm : XS} (hR : RR sc sm) {H : Heap} {locs : List Loc} {ls : Array Slot} (hPC : va_P D classes (xw_C adC cI cZ sc) H) (hPM : va_P D classes (xw_M adM cI cZ sm) H) (hS : va_S (fun q => s.heap.size ≤ q) s.heap H locs) (hl : lv_has ls 4 [(0, .ref b), (1, .ref (adC 0)), (2, .ref (adM 0)), (3, .int (nI i))]) (kk : ∀ (sc2 sm2 : XS) (H : Heap) (locs : List Loc) (ls : Array Slot), RR sc2 sm2 → va_P D classes (xw_C adC cI cZ sc2) H → va_P D classes (xw_M adM cI cZ sm2) H → va_S (fun q => s.heap.size ≤ q) s.heap H locs → lv_has ls 4 [(0, .ref b), (1, .ref (adC 0)), (2, .ref (adM 0)), (3, .int (nI i))] → W p l e room_1 s m #[Value.ref b] below meth c H locs 48 893 (lw_Z below #[Value.ref b] s) (F0 m 891 ls [])) : W p l e room_1 s m #[Value.ref b] below meth c H locs 48 893 (lw_Z below #[Value.ref b] s) (F0 m 335 ls []) := by
  obtain ⟨hx, hb, hr, hml, hown, hts0, hX, hbl, hlocks, hgv⟩ := C0
  have hts : ∀ w ∈ gd_tbl, w.before #[Value.ref b] s = true := fun w h => hts0 w (good_tbl w h).1
  have hbA : ¬ (fun q : Nat => s.heap.size ≤ q) b := Nat.not_le.mpr hbl
  obtain ⟨r, sc2, sm2, h1, h2, hR2⟩ := hq sc sm (xs (i + 1)) hR
  refine lv_aload_n hx hb d_Law_law_335 rfl (lv_at hl 1 rfl) ?_
  refine lv_aload_n hx hb d_Law_law_336 rfl (lv_at hl 0 rfl) ?_
  refine lv_iload_n hx hb d_Law_law_337 rfl (lv_at hl 3 rfl) ?_
  refine lv_iconst (v := (1 : Int32)) hx hb d_Law_law_338 (by decide) ?_
  refine lv_iadd hx hb d_Law_law_339 ?_
  refine va_sld hx hb hX hbl hbA hS (xk_ixin hi hL 1 (by omega)) d_Law_law_340 ?_
  rw [show (nI i + (1 : Int32)).toNatClampNeg = i + 1 from xk_ixcl hi hL 1 (by omega)]
  refine xk_lawI hPM (xk_no (by rw [xw_M_ads]; exact fun a ha hc => hdj a hc ha)) (xk_runV (As := [.int (xs (i + 1))]) (rest := []) hx hb hml hown hts hK hE hAC hPC hS ok_All_with in_All_with u_489 (c_All_with l D cI cZ adC (xk_AC adC) adK adV hDC (xs (i + 1)) sc r sc2 h1) (va_recv hK hPC (ci := 3) (q0 := 0) rfl xw_C_at_0) (by decide) rfl hl.1 rfl (Nat.le_of_ble_eq_true rfl) d_Law_law_341 ⟨by decide, by decide⟩) hAC hS (fun H locs hPC hPM hS => ?_)
  refine lv_aload_n hx hb d_Law_law_344 rfl (lv_at hl 2 rfl) ?_
  refine lv_aload_n hx hb d_Law_law_345 rfl (lv_at hl 0 rfl) ?_
  refine lv_iload_n hx hb d_Law_law_346 rfl (lv_at hl 3 rfl) ?_
  refine lv_iconst (v := (1 : Int32)) hx hb d_Law_law_347 (by decide) ?_
  refine lv_iadd hx hb d_Law_law_348 ?_
  refine va_sld hx hb hX hbl hbA hS (xk_ixin hi hL 1 (by omega)) d_Law_law_349 ?_
  rw [show (nI i + (1 : Int32)).toNatClampNeg = i + 1 from xk_ixcl hi hL 1 (by omega)]
  refine xk_lawI hPC (xk_no (by rw [xw_C_ads]; exact fun a ha hc => hdj a ha hc)) (xk_runV (As := [.int (xs (i + 1))]) (rest := [.int r]) hx hb hml hown hts hK hE hAM hPM hS ok_Mod_with in_Mod_with u_853 (c_Mod_with l D cI cZ adM (xk_AM adM) adK adV hDM (xs (i + 1)) sm r sm2 h2) (va_recv hK hPM (ci := 4) (q0 := 0) rfl xw_M_at_0) (by decide) rfl hl.1 rfl (Nat.le_of_ble_eq_true rfl) d_Law_law_350 ⟨by decide, by decide⟩) hAM hS (fun H locs hPM hPC hS => ?_)
  refine lv_icmp_eq (tgt := 891) hx hb d_Law_law_353 (by decide) (fun _ => ?_) (fun h => absurd rfl h)
  exact kk _ _ H locs ls hR2 hPC hPM hS hl
set_option maxHeartbeats 4000000 in
set_option maxRecDepth 100000 in
theorem xz_case_corners {p : Program} {e : Env} {s : State} {m : MethodId} {below : List Frame} {meth : Method} {c : Code} {l : Launch} {b L : Nat} {xs : Nat → Int32} {D : va_G} {cI cZ : ClassId} {adC adM adK adV : Nat → Nat} {RR : XS → XS → Prop} (hL : L ≤ 2560) (C0 : lw_At p s m meth c b L xs) (hK : va_K D classes (xk_tys cI cZ) s) (hE : xk_E (fun q => s.heap.size ≤ q) adK adV s) (hDC : ∀ st : XS, va_D (xk_AC adC) (xw_C adC cI cZ st)) (hDM : ∀ st : XS, va_D (xk_AM adM) (xw_M adM cI cZ st)) (hAC : ∀ q, xk_AC adC q → s.heap.size ≤ q) (hAM : ∀ q, xk_AM adM q → s.heap.size ≤ q) (hdj : ∀ q, xk_AC adC q → xk_AM adM q → False) (hq : xz_step_corners RR) {i : Nat} (hi : i + 5 ≤ L) {sc sm : XS} (hR : RR sc sm) {H : Heap} {locs : List Loc} {ls : Array Slot} (hPC : va_P D classes (xw_C adC cI cZ sc) H) (hPM : va_P D classes (xw_M adM cI cZ sm) H) (hS : va_S (fun q => s.heap.size ≤ q) s.heap H locs) (hl : lv_has ls 4 [(0, .ref b), (1, .ref (adC 0)), (2, .ref (adM 0)), (3, .int (nI i))]) (kk : ∀ (sc2 sm2 : XS) (H : Heap) (locs : List Loc) (ls : Array Slot), RR sc2 sm2 → va_P D classes (xw_C adC cI cZ sc2) H → va_P D classes (xw_M adM cI cZ sm2) H → va_S (fun q => s.heap.size ≤ q) s.heap H locs → lv_has ls 4 [(0, .ref b), (1, .ref (adC 0)), (2, .ref (adM 0)), (3, .int (nI i))] → W p l e room_1 s m #[Value.ref b] below meth c H locs 48 893 (lw_Z below #[Value.ref b] s) (F0 m 891 ls [])) : W p l e room_1 s m #[Value.ref b] below meth c H locs 48 893 (lw_Z below #[Value.ref b] s) (F0 m 358 ls []) := by
  obtain ⟨hx, hb, hr, hml, hown, hts0, hX, hbl, hlocks, hgv⟩ := C0
  have hts : ∀ w ∈ gd_tbl, w.before #[Value.ref b] s = true := fun w h => hts0 w (good_tbl w h).1
  have hbA : ¬ (fun q : Nat => s.heap.size ≤ q) b := Nat.not_le.mpr hbl
  obtain ⟨r, sc2, sm2, h1, h2, hR2⟩ := hq sc sm (xs (i + 1)) hR
  refine lv_aload_n hx hb d_Law_law_358 rfl (lv_at hl 1 rfl) ?_
  refine lv_aload_n hx hb d_Law_law_359 rfl (lv_at hl 0 rfl) ?_
  refine lv_iload_n hx hb d_Law_law_360 rfl (lv_at hl 3 rfl) ?_
  refine lv_iconst (v := (1 : Int32)) hx hb d_Law_law_361 (by decide) ?_
  refine lv_iadd hx hb d_Law_law_362 ?_
  refine va_sld hx hb hX hbl hbA hS (xk_ixin hi hL 1 (by omega)) d_Law_law_363 ?_
  rw [show (nI i + (1 : Int32)).toNatClampNeg = i + 1 from xk_ixcl hi hL 1 (by omega)]
  refine xk_lawI hPM (xk_no (by rw [xw_M_ads]; exact fun a ha hc => hdj a hc ha)) (xk_runV (As := [.int (xs (i + 1))]) (rest := []) hx hb hml hown hts hK hE hAC hPC hS ok_All_corners in_All_corners u_504 (c_All_corners l D cI cZ adC (xk_AC adC) adK adV hDC (xs (i + 1)) sc r sc2 h1) (va_recv hK hPC (ci := 3) (q0 := 0) rfl xw_C_at_0) (by decide) rfl hl.1 rfl (Nat.le_of_ble_eq_true rfl) d_Law_law_364 ⟨by decide, by decide⟩) hAC hS (fun H locs hPC hPM hS => ?_)
  refine lv_aload_n hx hb d_Law_law_367 rfl (lv_at hl 2 rfl) ?_
  refine lv_aload_n hx hb d_Law_law_368 rfl (lv_at hl 0 rfl) ?_
  refine lv_iload_n hx hb d_Law_law_369 rfl (lv_at hl 3 rfl) ?_
  refine lv_iconst (v := (1 : Int32)) hx hb d_Law_law_370 (by decide) ?_
  refine lv_iadd hx hb d_Law_law_371 ?_
  refine va_sld hx hb hX hbl hbA hS (xk_ixin hi hL 1 (by omega)) d_Law_law_372 ?_
  rw [show (nI i + (1 : Int32)).toNatClampNeg = i + 1 from xk_ixcl hi hL 1 (by omega)]
  refine xk_lawI hPC (xk_no (by rw [xw_C_ads]; exact fun a ha hc => hdj a ha hc)) (xk_runV (As := [.int (xs (i + 1))]) (rest := [.int r]) hx hb hml hown hts hK hE hAM hPM hS ok_Mod_corners in_Mod_corners u_857 (c_Mod_corners l D cI cZ adM (xk_AM adM) adK adV hDM (xs (i + 1)) sm r sm2 h2) (va_recv hK hPM (ci := 4) (q0 := 0) rfl xw_M_at_0) (by decide) rfl hl.1 rfl (Nat.le_of_ble_eq_true rfl) d_Law_law_373 ⟨by decide, by decide⟩) hAM hS (fun H locs hPM hPC hS => ?_)
  refine lv_icmp_eq (tgt := 891) hx hb d_Law_law_376 (by decide) (fun _ => ?_) (fun h => absurd rfl h)
  exact kk _ _ H locs ls hR2 hPC hPM hS hl
set_option maxHeartbeats 4000000 in
set_option maxRecDepth 100000 in
theorem xz_case_sides {p : Program} {e : Env} {s : State} {m : MethodId} {below : List Frame} {meth : Method} {c : Code} {l : Launch} {b L : Nat} {xs : Nat → Int32} {D : va_G} {cI cZ : ClassId} {adC adM adK adV : Nat → Nat} {RR : XS → XS → Prop} (hL : L ≤ 2560) (C0 : lw_At p s m meth c b L xs) (hK : va_K D classes (xk_tys cI cZ) s) (hE : xk_E (fun q => s.heap.size ≤ q) adK adV s) (hDC : ∀ st : XS, va_D (xk_AC adC) (xw_C adC cI cZ st)) (hDM : ∀ st : XS, va_D (xk_AM adM) (xw_M adM cI cZ st)) (hAC : ∀ q, xk_AC adC q → s.heap.size ≤ q) (hAM : ∀ q, xk_AM adM q → s.heap.size ≤ q) (hdj : ∀ q, xk_AC adC q → xk_AM adM q → False) (hq : xz_step_sides RR) {i : Nat} (hi : i + 5 ≤ L) {sc sm : XS} (hR : RR sc sm) {H : Heap} {locs : List Loc} {ls : Array Slot} (hPC : va_P D classes (xw_C adC cI cZ sc) H) (hPM : va_P D classes (xw_M adM cI cZ sm) H) (hS : va_S (fun q => s.heap.size ≤ q) s.heap H locs) (hl : lv_has ls 4 [(0, .ref b), (1, .ref (adC 0)), (2, .ref (adM 0)), (3, .int (nI i))]) (kk : ∀ (sc2 sm2 : XS) (H : Heap) (locs : List Loc) (ls : Array Slot), RR sc2 sm2 → va_P D classes (xw_C adC cI cZ sc2) H → va_P D classes (xw_M adM cI cZ sm2) H → va_S (fun q => s.heap.size ≤ q) s.heap H locs → lv_has ls 4 [(0, .ref b), (1, .ref (adC 0)), (2, .ref (adM 0)), (3, .int (nI i))] → W p l e room_1 s m #[Value.ref b] below meth c H locs 48 893 (lw_Z below #[Value.ref b] s) (F0 m 891 ls [])) : W p l e room_1 s m #[Value.ref b] below meth c H locs 48 893 (lw_Z below #[Value.ref b] s) (F0 m 381 ls []) := by
  obtain ⟨hx, hb, hr, hml, hown, hts0, hX, hbl, hlocks, hgv⟩ := C0
  have hts : ∀ w ∈ gd_tbl, w.before #[Value.ref b] s = true := fun w h => hts0 w (good_tbl w h).1
  have hbA : ¬ (fun q : Nat => s.heap.size ≤ q) b := Nat.not_le.mpr hbl
  obtain ⟨r, sc2, sm2, h1, h2, hR2⟩ := hq sc sm (xs (i + 1)) hR
  refine lv_aload_n hx hb d_Law_law_381 rfl (lv_at hl 1 rfl) ?_
  refine lv_aload_n hx hb d_Law_law_382 rfl (lv_at hl 0 rfl) ?_
  refine lv_iload_n hx hb d_Law_law_383 rfl (lv_at hl 3 rfl) ?_
  refine lv_iconst (v := (1 : Int32)) hx hb d_Law_law_384 (by decide) ?_
  refine lv_iadd hx hb d_Law_law_385 ?_
  refine va_sld hx hb hX hbl hbA hS (xk_ixin hi hL 1 (by omega)) d_Law_law_386 ?_
  rw [show (nI i + (1 : Int32)).toNatClampNeg = i + 1 from xk_ixcl hi hL 1 (by omega)]
  refine xk_lawI hPM (xk_no (by rw [xw_M_ads]; exact fun a ha hc => hdj a hc ha)) (xk_runV (As := [.int (xs (i + 1))]) (rest := []) hx hb hml hown hts hK hE hAC hPC hS ok_All_sides in_All_sides u_508 (c_All_sides l D cI cZ adC (xk_AC adC) adK adV hDC (xs (i + 1)) sc r sc2 h1) (va_recv hK hPC (ci := 3) (q0 := 0) rfl xw_C_at_0) (by decide) rfl hl.1 rfl (Nat.le_of_ble_eq_true rfl) d_Law_law_387 ⟨by decide, by decide⟩) hAC hS (fun H locs hPC hPM hS => ?_)
  refine lv_aload_n hx hb d_Law_law_390 rfl (lv_at hl 2 rfl) ?_
  refine lv_aload_n hx hb d_Law_law_391 rfl (lv_at hl 0 rfl) ?_
  refine lv_iload_n hx hb d_Law_law_392 rfl (lv_at hl 3 rfl) ?_
  refine lv_iconst (v := (1 : Int32)) hx hb d_Law_law_393 (by decide) ?_
  refine lv_iadd hx hb d_Law_law_394 ?_
  refine va_sld hx hb hX hbl hbA hS (xk_ixin hi hL 1 (by omega)) d_Law_law_395 ?_
  rw [show (nI i + (1 : Int32)).toNatClampNeg = i + 1 from xk_ixcl hi hL 1 (by omega)]
  refine xk_lawI hPC (xk_no (by rw [xw_C_ads]; exact fun a ha hc => hdj a ha hc)) (xk_runV (As := [.int (xs (i + 1))]) (rest := [.int r]) hx hb hml hown hts hK hE hAM hPM hS ok_Mod_sides in_Mod_sides u_865 (c_Mod_sides l D cI cZ adM (xk_AM adM) adK adV hDM (xs (i + 1)) sm r sm2 h2) (va_recv hK hPM (ci := 4) (q0 := 0) rfl xw_M_at_0) (by decide) rfl hl.1 rfl (Nat.le_of_ble_eq_true rfl) d_Law_law_396 ⟨by decide, by decide⟩) hAM hS (fun H locs hPM hPC hS => ?_)
  refine lv_icmp_eq (tgt := 891) hx hb d_Law_law_399 (by decide) (fun _ => ?_) (fun h => absurd rfl h)
  exact kk _ _ H locs ls hR2 hPC hPM hS hl
set_option maxHeartbeats 4000000 in
set_option maxRecDepth 100000 in
theorem xz_case_isOpen {p : Program} {e : Env} {s : State} {m : MethodId} {below : List Frame} {meth : Method} {c : Code} {l : Launch} {b L : Nat} {xs : Nat → Int32} {D : va_G} {cI cZ : ClassId} {adC adM adK adV : Nat → Nat} {RR : XS → XS → Prop} (hL : L ≤ 2560) (C0 : lw_At p s m meth c b L xs) (hK : va_K D classes (xk_tys cI cZ) s) (hE : xk_E (fun q => s.heap.size ≤ q) adK adV s) (hDC : ∀ st : XS, va_D (xk_AC adC) (xw_C adC cI cZ st)) (hDM : ∀ st : XS, va_D (xk_AM adM) (xw_M adM cI cZ st)) (hAC : ∀ q, xk_AC adC q → s.heap.size ≤ q) (hAM : ∀ q, xk_AM adM q → s.heap.size ≤ q) (hdj : ∀ q, xk_AC adC q → xk_AM adM q → False) (hq : xz_step_isOpen RR) {i : Nat} (hi : i + 5 ≤ L) {sc sm : XS} (hR : RR sc sm) {H : Heap} {locs : List Loc} {ls : Array Slot} (hPC : va_P D classes (xw_C adC cI cZ sc) H) (hPM : va_P D classes (xw_M adM cI cZ sm) H) (hS : va_S (fun q => s.heap.size ≤ q) s.heap H locs) (hl : lv_has ls 4 [(0, .ref b), (1, .ref (adC 0)), (2, .ref (adM 0)), (3, .int (nI i))]) (kk : ∀ (sc2 sm2 : XS) (H : Heap) (locs : List Loc) (ls : Array Slot), RR sc2 sm2 → va_P D classes (xw_C adC cI cZ sc2) H → va_P D classes (xw_M adM cI cZ sm2) H → va_S (fun q => s.heap.size ≤ q) s.heap H locs → lv_has ls 4 [(0, .ref b), (1, .ref (adC 0)), (2, .ref (adM 0)), (3, .int (nI i))] → W p l e room_1 s m #[Value.ref b] below meth c H locs 48 893 (lw_Z below #[Value.ref b] s) (F0 m 891 ls [])) : W p l e room_1 s m #[Value.ref b] below meth c H locs 48 893 (lw_Z below #[Value.ref b] s) (F0 m 404 ls []) := by
  obtain ⟨hx, hb, hr, hml, hown, hts0, hX, hbl, hlocks, hgv⟩ := C0
  have hts : ∀ w ∈ gd_tbl, w.before #[Value.ref b] s = true := fun w h => hts0 w (good_tbl w h).1
  have hbA : ¬ (fun q : Nat => s.heap.size ≤ q) b := Nat.not_le.mpr hbl
  obtain ⟨r, sc2, sm2, h1, h2, hR2⟩ := hq sc sm (xs (i + 1)) hR
  refine lv_aload_n hx hb d_Law_law_404 rfl (lv_at hl 1 rfl) ?_
  refine lv_aload_n hx hb d_Law_law_405 rfl (lv_at hl 0 rfl) ?_
  refine lv_iload_n hx hb d_Law_law_406 rfl (lv_at hl 3 rfl) ?_
  refine lv_iconst (v := (1 : Int32)) hx hb d_Law_law_407 (by decide) ?_
  refine lv_iadd hx hb d_Law_law_408 ?_
  refine va_sld hx hb hX hbl hbA hS (xk_ixin hi hL 1 (by omega)) d_Law_law_409 ?_
  rw [show (nI i + (1 : Int32)).toNatClampNeg = i + 1 from xk_ixcl hi hL 1 (by omega)]
  refine xk_lawI hPM (xk_no (by rw [xw_M_ads]; exact fun a ha hc => hdj a hc ha)) (xk_runV (As := [.int (xs (i + 1))]) (rest := []) hx hb hml hown hts hK hE hAC hPC hS ok_All_isOpen in_All_isOpen u_517 (c_All_isOpen l D cI cZ adC (xk_AC adC) adK adV hDC (xs (i + 1)) sc r sc2 h1) (va_recv hK hPC (ci := 3) (q0 := 0) rfl xw_C_at_0) (by decide) rfl hl.1 rfl (Nat.le_of_ble_eq_true rfl) d_Law_law_410 ⟨by decide, by decide⟩) hAC hS (fun H locs hPC hPM hS => ?_)
  refine lv_aload_n hx hb d_Law_law_413 rfl (lv_at hl 2 rfl) ?_
  refine lv_aload_n hx hb d_Law_law_414 rfl (lv_at hl 0 rfl) ?_
  refine lv_iload_n hx hb d_Law_law_415 rfl (lv_at hl 3 rfl) ?_
  refine lv_iconst (v := (1 : Int32)) hx hb d_Law_law_416 (by decide) ?_
  refine lv_iadd hx hb d_Law_law_417 ?_
  refine va_sld hx hb hX hbl hbA hS (xk_ixin hi hL 1 (by omega)) d_Law_law_418 ?_
  rw [show (nI i + (1 : Int32)).toNatClampNeg = i + 1 from xk_ixcl hi hL 1 (by omega)]
  refine xk_lawI hPC (xk_no (by rw [xw_C_ads]; exact fun a ha hc => hdj a ha hc)) (xk_runV (As := [.int (xs (i + 1))]) (rest := [.int r]) hx hb hml hown hts hK hE hAM hPM hS ok_Mod_isOpen in_Mod_isOpen u_873 (c_Mod_isOpen l D cI cZ adM (xk_AM adM) adK adV hDM (xs (i + 1)) sm r sm2 h2) (va_recv hK hPM (ci := 4) (q0 := 0) rfl xw_M_at_0) (by decide) rfl hl.1 rfl (Nat.le_of_ble_eq_true rfl) d_Law_law_419 ⟨by decide, by decide⟩) hAM hS (fun H locs hPM hPC hS => ?_)
  refine lv_icmp_eq (tgt := 891) hx hb d_Law_law_422 (by decide) (fun _ => ?_) (fun h => absurd rfl h)
  exact kk _ _ H locs ls hR2 hPC hPM hS hl
set_option maxHeartbeats 4000000 in
set_option maxRecDepth 100000 in
theorem xz_case_whole {p : Program} {e : Env} {s : State} {m : MethodId} {below : List Frame} {meth : Method} {c : Code} {l : Launch} {b L : Nat} {xs : Nat → Int32} {D : va_G} {cI cZ : ClassId} {adC adM adK adV : Nat → Nat} {RR : XS → XS → Prop} (hL : L ≤ 2560) (C0 : lw_At p s m meth c b L xs) (hK : va_K D classes (xk_tys cI cZ) s) (hE : xk_E (fun q => s.heap.size ≤ q) adK adV s) (hDC : ∀ st : XS, va_D (xk_AC adC) (xw_C adC cI cZ st)) (hDM : ∀ st : XS, va_D (xk_AM adM) (xw_M adM cI cZ st)) (hAC : ∀ q, xk_AC adC q → s.heap.size ≤ q) (hAM : ∀ q, xk_AM adM q → s.heap.size ≤ q) (hdj : ∀ q, xk_AC adC q → xk_AM adM q → False) (hq : xz_step_whole RR) {i : Nat} (hi : i + 5 ≤ L) {sc sm : XS} (hR : RR sc sm) {H : Heap} {locs : List Loc} {ls : Array Slot} (hPC : va_P D classes (xw_C adC cI cZ sc) H) (hPM : va_P D classes (xw_M adM cI cZ sm) H) (hS : va_S (fun q => s.heap.size ≤ q) s.heap H locs) (hl : lv_has ls 4 [(0, .ref b), (1, .ref (adC 0)), (2, .ref (adM 0)), (3, .int (nI i))]) (kk : ∀ (sc2 sm2 : XS) (H : Heap) (locs : List Loc) (ls : Array Slot), RR sc2 sm2 → va_P D classes (xw_C adC cI cZ sc2) H → va_P D classes (xw_M adM cI cZ sm2) H → va_S (fun q => s.heap.size ≤ q) s.heap H locs → lv_has ls 4 [(0, .ref b), (1, .ref (adC 0)), (2, .ref (adM 0)), (3, .int (nI i))] → W p l e room_1 s m #[Value.ref b] below meth c H locs 48 893 (lw_Z below #[Value.ref b] s) (F0 m 891 ls [])) : W p l e room_1 s m #[Value.ref b] below meth c H locs 48 893 (lw_Z below #[Value.ref b] s) (F0 m 427 ls []) := by
  obtain ⟨hx, hb, hr, hml, hown, hts0, hX, hbl, hlocks, hgv⟩ := C0
  have hts : ∀ w ∈ gd_tbl, w.before #[Value.ref b] s = true := fun w h => hts0 w (good_tbl w h).1
  have hbA : ¬ (fun q : Nat => s.heap.size ≤ q) b := Nat.not_le.mpr hbl
  obtain ⟨r, sc2, sm2, h1, h2, hR2, e1⟩ := hq sc sm  hR
  subst e1
  refine lv_aload_n hx hb d_Law_law_427 rfl (lv_at hl 1 rfl) ?_
  refine xk_lawI hPM (xk_no (by rw [xw_M_ads]; exact fun a ha hc => hdj a hc ha)) (xk_runV (As := []) (rest := []) hx hb hml hown hts hK hE hAC hPC hS ok_All_whole in_All_whole u_522 (c_All_whole l D cI cZ adC (xk_AC adC) adK adV hDC  sc r h1) (va_recv hK hPC (ci := 3) (q0 := 0) rfl xw_C_at_0) (by decide) rfl hl.1 rfl (Nat.le_of_ble_eq_true rfl) d_Law_law_428 ⟨by decide, by decide⟩) hAC hS (fun H locs hPC hPM hS => ?_)
  refine lv_aload_n hx hb d_Law_law_431 rfl (lv_at hl 2 rfl) ?_
  refine xk_lawI hPC (xk_no (by rw [xw_C_ads]; exact fun a ha hc => hdj a ha hc)) (xk_runV (As := []) (rest := [.int r]) hx hb hml hown hts hK hE hAM hPM hS ok_Mod_whole in_Mod_whole u_877 (c_Mod_whole l D cI cZ adM (xk_AM adM) adK adV hDM  sm r sm2 h2) (va_recv hK hPM (ci := 4) (q0 := 0) rfl xw_M_at_0) (by decide) rfl hl.1 rfl (Nat.le_of_ble_eq_true rfl) d_Law_law_432 ⟨by decide, by decide⟩) hAM hS (fun H locs hPM hPC hS => ?_)
  refine lv_icmp_eq (tgt := 891) hx hb d_Law_law_435 (by decide) (fun _ => ?_) (fun h => absurd rfl h)
  exact kk _ _ H locs ls hR2 hPC hPM hS hl
set_option maxHeartbeats 4000000 in
set_option maxRecDepth 100000 in
theorem xz_case_points {p : Program} {e : Env} {s : State} {m : MethodId} {below : List Frame} {meth : Method} {c : Code} {l : Launch} {b L : Nat} {xs : Nat → Int32} {D : va_G} {cI cZ : ClassId} {adC adM adK adV : Nat → Nat} {RR : XS → XS → Prop} (hL : L ≤ 2560) (C0 : lw_At p s m meth c b L xs) (hK : va_K D classes (xk_tys cI cZ) s) (hE : xk_E (fun q => s.heap.size ≤ q) adK adV s) (hDC : ∀ st : XS, va_D (xk_AC adC) (xw_C adC cI cZ st)) (hDM : ∀ st : XS, va_D (xk_AM adM) (xw_M adM cI cZ st)) (hAC : ∀ q, xk_AC adC q → s.heap.size ≤ q) (hAM : ∀ q, xk_AM adM q → s.heap.size ≤ q) (hdj : ∀ q, xk_AC adC q → xk_AM adM q → False) (hq : xz_step_points RR) {i : Nat} (hi : i + 5 ≤ L) {sc sm : XS} (hR : RR sc sm) {H : Heap} {locs : List Loc} {ls : Array Slot} (hPC : va_P D classes (xw_C adC cI cZ sc) H) (hPM : va_P D classes (xw_M adM cI cZ sm) H) (hS : va_S (fun q => s.heap.size ≤ q) s.heap H locs) (hl : lv_has ls 4 [(0, .ref b), (1, .ref (adC 0)), (2, .ref (adM 0)), (3, .int (nI i))]) (kk : ∀ (sc2 sm2 : XS) (H : Heap) (locs : List Loc) (ls : Array Slot), RR sc2 sm2 → va_P D classes (xw_C adC cI cZ sc2) H → va_P D classes (xw_M adM cI cZ sm2) H → va_S (fun q => s.heap.size ≤ q) s.heap H locs → lv_has ls 4 [(0, .ref b), (1, .ref (adC 0)), (2, .ref (adM 0)), (3, .int (nI i))] → W p l e room_1 s m #[Value.ref b] below meth c H locs 48 893 (lw_Z below #[Value.ref b] s) (F0 m 891 ls [])) : W p l e room_1 s m #[Value.ref b] below meth c H locs 48 893 (lw_Z below #[Value.ref b] s) (F0 m 440 ls []) := by
  obtain ⟨hx, hb, hr, hml, hown, hts0, hX, hbl, hlocks, hgv⟩ := C0
  have hts : ∀ w ∈ gd_tbl, w.before #[Value.ref b] s = true := fun w h => hts0 w (good_tbl w h).1
  have hbA : ¬ (fun q : Nat => s.heap.size ≤ q) b := Nat.not_le.mpr hbl
  obtain ⟨r, sc2, sm2, h1, h2, hR2⟩ := hq sc sm (xs (i + 1)) hR
  refine lv_aload_n hx hb d_Law_law_440 rfl (lv_at hl 1 rfl) ?_
  refine lv_aload_n hx hb d_Law_law_441 rfl (lv_at hl 0 rfl) ?_
  refine lv_iload_n hx hb d_Law_law_442 rfl (lv_at hl 3 rfl) ?_
  refine lv_iconst (v := (1 : Int32)) hx hb d_Law_law_443 (by decide) ?_
  refine lv_iadd hx hb d_Law_law_444 ?_
  refine va_sld hx hb hX hbl hbA hS (xk_ixin hi hL 1 (by omega)) d_Law_law_445 ?_
  rw [show (nI i + (1 : Int32)).toNatClampNeg = i + 1 from xk_ixcl hi hL 1 (by omega)]
  refine xk_lawI hPM (xk_no (by rw [xw_M_ads]; exact fun a ha hc => hdj a hc ha)) (xk_runV (As := [.int (xs (i + 1))]) (rest := []) hx hb hml hown hts hK hE hAC hPC hS ok_All_points in_All_points u_526 (c_All_points l D cI cZ adC (xk_AC adC) adK adV hDC (xs (i + 1)) sc r sc2 h1) (va_recv hK hPC (ci := 3) (q0 := 0) rfl xw_C_at_0) (by decide) rfl hl.1 rfl (Nat.le_of_ble_eq_true rfl) d_Law_law_446 ⟨by decide, by decide⟩) hAC hS (fun H locs hPC hPM hS => ?_)
  refine lv_aload_n hx hb d_Law_law_449 rfl (lv_at hl 2 rfl) ?_
  refine lv_aload_n hx hb d_Law_law_450 rfl (lv_at hl 0 rfl) ?_
  refine lv_iload_n hx hb d_Law_law_451 rfl (lv_at hl 3 rfl) ?_
  refine lv_iconst (v := (1 : Int32)) hx hb d_Law_law_452 (by decide) ?_
  refine lv_iadd hx hb d_Law_law_453 ?_
  refine va_sld hx hb hX hbl hbA hS (xk_ixin hi hL 1 (by omega)) d_Law_law_454 ?_
  rw [show (nI i + (1 : Int32)).toNatClampNeg = i + 1 from xk_ixcl hi hL 1 (by omega)]
  refine xk_lawI hPC (xk_no (by rw [xw_C_ads]; exact fun a ha hc => hdj a ha hc)) (xk_runV (As := [.int (xs (i + 1))]) (rest := [.int r]) hx hb hml hown hts hK hE hAM hPM hS ok_Mod_points in_Mod_points u_881 (c_Mod_points l D cI cZ adM (xk_AM adM) adK adV hDM (xs (i + 1)) sm r sm2 h2) (va_recv hK hPM (ci := 4) (q0 := 0) rfl xw_M_at_0) (by decide) rfl hl.1 rfl (Nat.le_of_ble_eq_true rfl) d_Law_law_455 ⟨by decide, by decide⟩) hAM hS (fun H locs hPM hPC hS => ?_)
  refine lv_icmp_eq (tgt := 891) hx hb d_Law_law_458 (by decide) (fun _ => ?_) (fun h => absurd rfl h)
  exact kk _ _ H locs ls hR2 hPC hPM hS hl
set_option maxHeartbeats 4000000 in
set_option maxRecDepth 100000 in
theorem xz_case_lamps {p : Program} {e : Env} {s : State} {m : MethodId} {below : List Frame} {meth : Method} {c : Code} {l : Launch} {b L : Nat} {xs : Nat → Int32} {D : va_G} {cI cZ : ClassId} {adC adM adK adV : Nat → Nat} {RR : XS → XS → Prop} (hL : L ≤ 2560) (C0 : lw_At p s m meth c b L xs) (hK : va_K D classes (xk_tys cI cZ) s) (hE : xk_E (fun q => s.heap.size ≤ q) adK adV s) (hDC : ∀ st : XS, va_D (xk_AC adC) (xw_C adC cI cZ st)) (hDM : ∀ st : XS, va_D (xk_AM adM) (xw_M adM cI cZ st)) (hAC : ∀ q, xk_AC adC q → s.heap.size ≤ q) (hAM : ∀ q, xk_AM adM q → s.heap.size ≤ q) (hdj : ∀ q, xk_AC adC q → xk_AM adM q → False) (hq : xz_step_lamps RR) {i : Nat} (hi : i + 5 ≤ L) {sc sm : XS} (hR : RR sc sm) {H : Heap} {locs : List Loc} {ls : Array Slot} (hPC : va_P D classes (xw_C adC cI cZ sc) H) (hPM : va_P D classes (xw_M adM cI cZ sm) H) (hS : va_S (fun q => s.heap.size ≤ q) s.heap H locs) (hl : lv_has ls 4 [(0, .ref b), (1, .ref (adC 0)), (2, .ref (adM 0)), (3, .int (nI i))]) (kk : ∀ (sc2 sm2 : XS) (H : Heap) (locs : List Loc) (ls : Array Slot), RR sc2 sm2 → va_P D classes (xw_C adC cI cZ sc2) H → va_P D classes (xw_M adM cI cZ sm2) H → va_S (fun q => s.heap.size ≤ q) s.heap H locs → lv_has ls 4 [(0, .ref b), (1, .ref (adC 0)), (2, .ref (adM 0)), (3, .int (nI i))] → W p l e room_1 s m #[Value.ref b] below meth c H locs 48 893 (lw_Z below #[Value.ref b] s) (F0 m 891 ls [])) : W p l e room_1 s m #[Value.ref b] below meth c H locs 48 893 (lw_Z below #[Value.ref b] s) (F0 m 463 ls []) := by
  obtain ⟨hx, hb, hr, hml, hown, hts0, hX, hbl, hlocks, hgv⟩ := C0
  have hts : ∀ w ∈ gd_tbl, w.before #[Value.ref b] s = true := fun w h => hts0 w (good_tbl w h).1
  have hbA : ¬ (fun q : Nat => s.heap.size ≤ q) b := Nat.not_le.mpr hbl
  obtain ⟨r, sc2, sm2, h1, h2, hR2, e1, e2⟩ := hq sc sm  hR
  subst e1
  subst e2
  refine lv_aload_n hx hb d_Law_law_463 rfl (lv_at hl 1 rfl) ?_
  refine xk_lawI hPM (xk_no (by rw [xw_M_ads]; exact fun a ha hc => hdj a hc ha)) (xk_runV (As := []) (rest := []) hx hb hml hown hts hK hE hAC hPC hS ok_All_lamps in_All_lamps u_539 (c_All_lamps l D cI cZ adC (xk_AC adC) adK adV hDC  sc r h1) (va_recv hK hPC (ci := 3) (q0 := 0) rfl xw_C_at_0) (by decide) rfl hl.1 rfl (Nat.le_of_ble_eq_true rfl) d_Law_law_464 ⟨by decide, by decide⟩) hAC hS (fun H locs hPC hPM hS => ?_)
  refine lv_aload_n hx hb d_Law_law_467 rfl (lv_at hl 2 rfl) ?_
  refine xk_lawI hPC (xk_no (by rw [xw_C_ads]; exact fun a ha hc => hdj a ha hc)) (xk_runV (As := []) (rest := [.int r]) hx hb hml hown hts hK hE hAM hPM hS ok_Mod_lamps in_Mod_lamps u_885 (c_Mod_lamps l D cI cZ adM (xk_AM adM) adK adV hDM  sm r h2) (va_recv hK hPM (ci := 4) (q0 := 0) rfl xw_M_at_0) (by decide) rfl hl.1 rfl (Nat.le_of_ble_eq_true rfl) d_Law_law_468 ⟨by decide, by decide⟩) hAM hS (fun H locs hPM hPC hS => ?_)
  refine lv_icmp_eq (tgt := 891) hx hb d_Law_law_471 (by decide) (fun _ => ?_) (fun h => absurd rfl h)
  exact kk _ _ H locs ls hR2 hPC hPM hS hl
set_option maxHeartbeats 4000000 in
set_option maxRecDepth 100000 in
theorem xz_case_where {p : Program} {e : Env} {s : State} {m : MethodId} {below : List Frame} {meth : Method} {c : Code} {l : Launch} {b L : Nat} {xs : Nat → Int32} {D : va_G} {cI cZ : ClassId} {adC adM adK adV : Nat → Nat} {RR : XS → XS → Prop} (hL : L ≤ 2560) (C0 : lw_At p s m meth c b L xs) (hK : va_K D classes (xk_tys cI cZ) s) (hE : xk_E (fun q => s.heap.size ≤ q) adK adV s) (hDC : ∀ st : XS, va_D (xk_AC adC) (xw_C adC cI cZ st)) (hDM : ∀ st : XS, va_D (xk_AM adM) (xw_M adM cI cZ st)) (hAC : ∀ q, xk_AC adC q → s.heap.size ≤ q) (hAM : ∀ q, xk_AM adM q → s.heap.size ≤ q) (hdj : ∀ q, xk_AC adC q → xk_AM adM q → False) (hq : xz_step_where RR) {i : Nat} (hi : i + 5 ≤ L) {sc sm : XS} (hR : RR sc sm) {H : Heap} {locs : List Loc} {ls : Array Slot} (hPC : va_P D classes (xw_C adC cI cZ sc) H) (hPM : va_P D classes (xw_M adM cI cZ sm) H) (hS : va_S (fun q => s.heap.size ≤ q) s.heap H locs) (hl : lv_has ls 4 [(0, .ref b), (1, .ref (adC 0)), (2, .ref (adM 0)), (3, .int (nI i))]) (kk : ∀ (sc2 sm2 : XS) (H : Heap) (locs : List Loc) (ls : Array Slot), RR sc2 sm2 → va_P D classes (xw_C adC cI cZ sc2) H → va_P D classes (xw_M adM cI cZ sm2) H → va_S (fun q => s.heap.size ≤ q) s.heap H locs → lv_has ls 4 [(0, .ref b), (1, .ref (adC 0)), (2, .ref (adM 0)), (3, .int (nI i))] → W p l e room_1 s m #[Value.ref b] below meth c H locs 48 893 (lw_Z below #[Value.ref b] s) (F0 m 891 ls [])) : W p l e room_1 s m #[Value.ref b] below meth c H locs 48 893 (lw_Z below #[Value.ref b] s) (F0 m 476 ls []) := by
  obtain ⟨hx, hb, hr, hml, hown, hts0, hX, hbl, hlocks, hgv⟩ := C0
  have hts : ∀ w ∈ gd_tbl, w.before #[Value.ref b] s = true := fun w h => hts0 w (good_tbl w h).1
  have hbA : ¬ (fun q : Nat => s.heap.size ≤ q) b := Nat.not_le.mpr hbl
  obtain ⟨r, sc2, sm2, h1, h2, hR2⟩ := hq sc sm (xs (i + 1)) hR
  refine lv_aload_n hx hb d_Law_law_476 rfl (lv_at hl 1 rfl) ?_
  refine lv_aload_n hx hb d_Law_law_477 rfl (lv_at hl 0 rfl) ?_
  refine lv_iload_n hx hb d_Law_law_478 rfl (lv_at hl 3 rfl) ?_
  refine lv_iconst (v := (1 : Int32)) hx hb d_Law_law_479 (by decide) ?_
  refine lv_iadd hx hb d_Law_law_480 ?_
  refine va_sld hx hb hX hbl hbA hS (xk_ixin hi hL 1 (by omega)) d_Law_law_481 ?_
  rw [show (nI i + (1 : Int32)).toNatClampNeg = i + 1 from xk_ixcl hi hL 1 (by omega)]
  refine xk_lawI hPM (xk_no (by rw [xw_M_ads]; exact fun a ha hc => hdj a hc ha)) (xk_runV (As := [.int (xs (i + 1))]) (rest := []) hx hb hml hown hts hK hE hAC hPC hS ok_All_where in_All_where u_543 (c_All_where l D cI cZ adC (xk_AC adC) adK adV hDC (xs (i + 1)) sc r sc2 h1) (va_recv hK hPC (ci := 3) (q0 := 0) rfl xw_C_at_0) (by decide) rfl hl.1 rfl (Nat.le_of_ble_eq_true rfl) d_Law_law_482 ⟨by decide, by decide⟩) hAC hS (fun H locs hPC hPM hS => ?_)
  refine lv_aload_n hx hb d_Law_law_485 rfl (lv_at hl 2 rfl) ?_
  refine lv_aload_n hx hb d_Law_law_486 rfl (lv_at hl 0 rfl) ?_
  refine lv_iload_n hx hb d_Law_law_487 rfl (lv_at hl 3 rfl) ?_
  refine lv_iconst (v := (1 : Int32)) hx hb d_Law_law_488 (by decide) ?_
  refine lv_iadd hx hb d_Law_law_489 ?_
  refine va_sld hx hb hX hbl hbA hS (xk_ixin hi hL 1 (by omega)) d_Law_law_490 ?_
  rw [show (nI i + (1 : Int32)).toNatClampNeg = i + 1 from xk_ixcl hi hL 1 (by omega)]
  refine xk_lawI hPC (xk_no (by rw [xw_C_ads]; exact fun a ha hc => hdj a ha hc)) (xk_runV (As := [.int (xs (i + 1))]) (rest := [.int r]) hx hb hml hown hts hK hE hAM hPM hS ok_Mod_where in_Mod_where u_889 (c_Mod_where l D cI cZ adM (xk_AM adM) adK adV hDM (xs (i + 1)) sm r sm2 h2) (va_recv hK hPM (ci := 4) (q0 := 0) rfl xw_M_at_0) (by decide) rfl hl.1 rfl (Nat.le_of_ble_eq_true rfl) d_Law_law_491 ⟨by decide, by decide⟩) hAM hS (fun H locs hPM hPC hS => ?_)
  refine lv_icmp_eq (tgt := 891) hx hb d_Law_law_494 (by decide) (fun _ => ?_) (fun h => absurd rfl h)
  exact kk _ _ H locs ls hR2 hPC hPM hS hl
set_option maxHeartbeats 4000000 in
set_option maxRecDepth 100000 in
theorem xz_case_together {p : Program} {e : Env} {s : State} {m : MethodId} {below : List Frame} {meth : Method} {c : Code} {l : Launch} {b L : Nat} {xs : Nat → Int32} {D : va_G} {cI cZ : ClassId} {adC adM adK adV : Nat → Nat} {RR : XS → XS → Prop} (hL : L ≤ 2560) (C0 : lw_At p s m meth c b L xs) (hK : va_K D classes (xk_tys cI cZ) s) (hE : xk_E (fun q => s.heap.size ≤ q) adK adV s) (hDC : ∀ st : XS, va_D (xk_AC adC) (xw_C adC cI cZ st)) (hDM : ∀ st : XS, va_D (xk_AM adM) (xw_M adM cI cZ st)) (hAC : ∀ q, xk_AC adC q → s.heap.size ≤ q) (hAM : ∀ q, xk_AM adM q → s.heap.size ≤ q) (hdj : ∀ q, xk_AC adC q → xk_AM adM q → False) (hq : xz_step_together RR) {i : Nat} (hi : i + 5 ≤ L) {sc sm : XS} (hR : RR sc sm) {H : Heap} {locs : List Loc} {ls : Array Slot} (hPC : va_P D classes (xw_C adC cI cZ sc) H) (hPM : va_P D classes (xw_M adM cI cZ sm) H) (hS : va_S (fun q => s.heap.size ≤ q) s.heap H locs) (hl : lv_has ls 4 [(0, .ref b), (1, .ref (adC 0)), (2, .ref (adM 0)), (3, .int (nI i))]) (kk : ∀ (sc2 sm2 : XS) (H : Heap) (locs : List Loc) (ls : Array Slot), RR sc2 sm2 → va_P D classes (xw_C adC cI cZ sc2) H → va_P D classes (xw_M adM cI cZ sm2) H → va_S (fun q => s.heap.size ≤ q) s.heap H locs → lv_has ls 4 [(0, .ref b), (1, .ref (adC 0)), (2, .ref (adM 0)), (3, .int (nI i))] → W p l e room_1 s m #[Value.ref b] below meth c H locs 48 893 (lw_Z below #[Value.ref b] s) (F0 m 891 ls [])) : W p l e room_1 s m #[Value.ref b] below meth c H locs 48 893 (lw_Z below #[Value.ref b] s) (F0 m 499 ls []) := by
  obtain ⟨hx, hb, hr, hml, hown, hts0, hX, hbl, hlocks, hgv⟩ := C0
  have hts : ∀ w ∈ gd_tbl, w.before #[Value.ref b] s = true := fun w h => hts0 w (good_tbl w h).1
  have hbA : ¬ (fun q : Nat => s.heap.size ≤ q) b := Nat.not_le.mpr hbl
  obtain ⟨r, sc2, sm2, h1, h2, hR2⟩ := hq sc sm (xs (i + 1)) hR
  refine lv_aload_n hx hb d_Law_law_499 rfl (lv_at hl 1 rfl) ?_
  refine lv_aload_n hx hb d_Law_law_500 rfl (lv_at hl 0 rfl) ?_
  refine lv_iload_n hx hb d_Law_law_501 rfl (lv_at hl 3 rfl) ?_
  refine lv_iconst (v := (1 : Int32)) hx hb d_Law_law_502 (by decide) ?_
  refine lv_iadd hx hb d_Law_law_503 ?_
  refine va_sld hx hb hX hbl hbA hS (xk_ixin hi hL 1 (by omega)) d_Law_law_504 ?_
  rw [show (nI i + (1 : Int32)).toNatClampNeg = i + 1 from xk_ixcl hi hL 1 (by omega)]
  refine xk_lawI hPM (xk_no (by rw [xw_M_ads]; exact fun a ha hc => hdj a hc ha)) (xk_runV (As := [.int (xs (i + 1))]) (rest := []) hx hb hml hown hts hK hE hAC hPC hS ok_All_together in_All_together u_556 (c_All_together l D cI cZ adC (xk_AC adC) adK adV hDC (xs (i + 1)) sc r sc2 h1) (va_recv hK hPC (ci := 3) (q0 := 0) rfl xw_C_at_0) (by decide) rfl hl.1 rfl (Nat.le_of_ble_eq_true rfl) d_Law_law_505 ⟨by decide, by decide⟩) hAC hS (fun H locs hPC hPM hS => ?_)
  refine lv_aload_n hx hb d_Law_law_508 rfl (lv_at hl 2 rfl) ?_
  refine lv_aload_n hx hb d_Law_law_509 rfl (lv_at hl 0 rfl) ?_
  refine lv_iload_n hx hb d_Law_law_510 rfl (lv_at hl 3 rfl) ?_
  refine lv_iconst (v := (1 : Int32)) hx hb d_Law_law_511 (by decide) ?_
  refine lv_iadd hx hb d_Law_law_512 ?_
  refine va_sld hx hb hX hbl hbA hS (xk_ixin hi hL 1 (by omega)) d_Law_law_513 ?_
  rw [show (nI i + (1 : Int32)).toNatClampNeg = i + 1 from xk_ixcl hi hL 1 (by omega)]
  refine xk_lawI hPC (xk_no (by rw [xw_C_ads]; exact fun a ha hc => hdj a ha hc)) (xk_runV (As := [.int (xs (i + 1))]) (rest := [.int r]) hx hb hml hown hts hK hE hAM hPM hS ok_Mod_together in_Mod_together u_905 (c_Mod_together l D cI cZ adM (xk_AM adM) adK adV hDM (xs (i + 1)) sm r sm2 h2) (va_recv hK hPM (ci := 4) (q0 := 0) rfl xw_M_at_0) (by decide) rfl hl.1 rfl (Nat.le_of_ble_eq_true rfl) d_Law_law_514 ⟨by decide, by decide⟩) hAM hS (fun H locs hPM hPC hS => ?_)
  refine lv_icmp_eq (tgt := 891) hx hb d_Law_law_517 (by decide) (fun _ => ?_) (fun h => absurd rfl h)
  exact kk _ _ H locs ls hR2 hPC hPM hS hl
set_option maxHeartbeats 4000000 in
set_option maxRecDepth 100000 in
theorem xz_case_steps {p : Program} {e : Env} {s : State} {m : MethodId} {below : List Frame} {meth : Method} {c : Code} {l : Launch} {b L : Nat} {xs : Nat → Int32} {D : va_G} {cI cZ : ClassId} {adC adM adK adV : Nat → Nat} {RR : XS → XS → Prop} (hL : L ≤ 2560) (C0 : lw_At p s m meth c b L xs) (hK : va_K D classes (xk_tys cI cZ) s) (hE : xk_E (fun q => s.heap.size ≤ q) adK adV s) (hDC : ∀ st : XS, va_D (xk_AC adC) (xw_C adC cI cZ st)) (hDM : ∀ st : XS, va_D (xk_AM adM) (xw_M adM cI cZ st)) (hAC : ∀ q, xk_AC adC q → s.heap.size ≤ q) (hAM : ∀ q, xk_AM adM q → s.heap.size ≤ q) (hdj : ∀ q, xk_AC adC q → xk_AM adM q → False) (hq : xz_step_steps RR) {i : Nat} (hi : i + 5 ≤ L) {sc sm : XS} (hR : RR sc sm) {H : Heap} {locs : List Loc} {ls : Array Slot} (hPC : va_P D classes (xw_C adC cI cZ sc) H) (hPM : va_P D classes (xw_M adM cI cZ sm) H) (hS : va_S (fun q => s.heap.size ≤ q) s.heap H locs) (hl : lv_has ls 4 [(0, .ref b), (1, .ref (adC 0)), (2, .ref (adM 0)), (3, .int (nI i))]) (kk : ∀ (sc2 sm2 : XS) (H : Heap) (locs : List Loc) (ls : Array Slot), RR sc2 sm2 → va_P D classes (xw_C adC cI cZ sc2) H → va_P D classes (xw_M adM cI cZ sm2) H → va_S (fun q => s.heap.size ≤ q) s.heap H locs → lv_has ls 4 [(0, .ref b), (1, .ref (adC 0)), (2, .ref (adM 0)), (3, .int (nI i))] → W p l e room_1 s m #[Value.ref b] below meth c H locs 48 893 (lw_Z below #[Value.ref b] s) (F0 m 891 ls [])) : W p l e room_1 s m #[Value.ref b] below meth c H locs 48 893 (lw_Z below #[Value.ref b] s) (F0 m 522 ls []) := by
  obtain ⟨hx, hb, hr, hml, hown, hts0, hX, hbl, hlocks, hgv⟩ := C0
  have hts : ∀ w ∈ gd_tbl, w.before #[Value.ref b] s = true := fun w h => hts0 w (good_tbl w h).1
  have hbA : ¬ (fun q : Nat => s.heap.size ≤ q) b := Nat.not_le.mpr hbl
  obtain ⟨r, sc2, sm2, h1, h2, hR2⟩ := hq sc sm (xs (i + 1)) (xs (i + 2)) hR
  refine lv_aload_n hx hb d_Law_law_522 rfl (lv_at hl 1 rfl) ?_
  refine lv_aload_n hx hb d_Law_law_523 rfl (lv_at hl 0 rfl) ?_
  refine lv_iload_n hx hb d_Law_law_524 rfl (lv_at hl 3 rfl) ?_
  refine lv_iconst (v := (1 : Int32)) hx hb d_Law_law_525 (by decide) ?_
  refine lv_iadd hx hb d_Law_law_526 ?_
  refine va_sld hx hb hX hbl hbA hS (xk_ixin hi hL 1 (by omega)) d_Law_law_527 ?_
  rw [show (nI i + (1 : Int32)).toNatClampNeg = i + 1 from xk_ixcl hi hL 1 (by omega)]
  refine lv_aload_n hx hb d_Law_law_528 rfl (lv_at hl 0 rfl) ?_
  refine lv_iload_n hx hb d_Law_law_529 rfl (lv_at hl 3 rfl) ?_
  refine lv_iconst (v := (2 : Int32)) hx hb d_Law_law_530 (by decide) ?_
  refine lv_iadd hx hb d_Law_law_531 ?_
  refine va_sld hx hb hX hbl hbA hS (xk_ixin hi hL 2 (by omega)) d_Law_law_532 ?_
  rw [show (nI i + (2 : Int32)).toNatClampNeg = i + 2 from xk_ixcl hi hL 2 (by omega)]
  refine xk_lawI hPM (xk_no (by rw [xw_M_ads]; exact fun a ha hc => hdj a hc ha)) (xk_runV (As := [.int (xs (i + 1)), .int (xs (i + 2))]) (rest := []) hx hb hml hown hts hK hE hAC hPC hS ok_All_steps in_All_steps u_560 (c_All_steps l D cI cZ adC (xk_AC adC) adK adV hDC (xs (i + 1)) (xs (i + 2)) sc r sc2 h1) (va_recv hK hPC (ci := 3) (q0 := 0) rfl xw_C_at_0) (by decide) rfl hl.1 rfl (Nat.le_of_ble_eq_true rfl) d_Law_law_533 ⟨by decide, by decide⟩) hAC hS (fun H locs hPC hPM hS => ?_)
  refine lv_aload_n hx hb d_Law_law_536 rfl (lv_at hl 2 rfl) ?_
  refine lv_aload_n hx hb d_Law_law_537 rfl (lv_at hl 0 rfl) ?_
  refine lv_iload_n hx hb d_Law_law_538 rfl (lv_at hl 3 rfl) ?_
  refine lv_iconst (v := (1 : Int32)) hx hb d_Law_law_539 (by decide) ?_
  refine lv_iadd hx hb d_Law_law_540 ?_
  refine va_sld hx hb hX hbl hbA hS (xk_ixin hi hL 1 (by omega)) d_Law_law_541 ?_
  rw [show (nI i + (1 : Int32)).toNatClampNeg = i + 1 from xk_ixcl hi hL 1 (by omega)]
  refine lv_aload_n hx hb d_Law_law_542 rfl (lv_at hl 0 rfl) ?_
  refine lv_iload_n hx hb d_Law_law_543 rfl (lv_at hl 3 rfl) ?_
  refine lv_iconst (v := (2 : Int32)) hx hb d_Law_law_544 (by decide) ?_
  refine lv_iadd hx hb d_Law_law_545 ?_
  refine va_sld hx hb hX hbl hbA hS (xk_ixin hi hL 2 (by omega)) d_Law_law_546 ?_
  rw [show (nI i + (2 : Int32)).toNatClampNeg = i + 2 from xk_ixcl hi hL 2 (by omega)]
  refine xk_lawI hPC (xk_no (by rw [xw_C_ads]; exact fun a ha hc => hdj a ha hc)) (xk_runV (As := [.int (xs (i + 1)), .int (xs (i + 2))]) (rest := [.int r]) hx hb hml hown hts hK hE hAM hPM hS ok_Mod_steps in_Mod_steps u_909 (c_Mod_steps l D cI cZ adM (xk_AM adM) adK adV hDM (xs (i + 1)) (xs (i + 2)) sm r sm2 h2) (va_recv hK hPM (ci := 4) (q0 := 0) rfl xw_M_at_0) (by decide) rfl hl.1 rfl (Nat.le_of_ble_eq_true rfl) d_Law_law_547 ⟨by decide, by decide⟩) hAM hS (fun H locs hPM hPC hS => ?_)
  refine lv_icmp_eq (tgt := 891) hx hb d_Law_law_550 (by decide) (fun _ => ?_) (fun h => absurd rfl h)
  exact kk _ _ H locs ls hR2 hPC hPM hS hl
set_option maxHeartbeats 4000000 in
set_option maxRecDepth 100000 in
theorem xz_case_next {p : Program} {e : Env} {s : State} {m : MethodId} {below : List Frame} {meth : Method} {c : Code} {l : Launch} {b L : Nat} {xs : Nat → Int32} {D : va_G} {cI cZ : ClassId} {adC adM adK adV : Nat → Nat} {RR : XS → XS → Prop} (hL : L ≤ 2560) (C0 : lw_At p s m meth c b L xs) (hK : va_K D classes (xk_tys cI cZ) s) (hE : xk_E (fun q => s.heap.size ≤ q) adK adV s) (hDC : ∀ st : XS, va_D (xk_AC adC) (xw_C adC cI cZ st)) (hDM : ∀ st : XS, va_D (xk_AM adM) (xw_M adM cI cZ st)) (hAC : ∀ q, xk_AC adC q → s.heap.size ≤ q) (hAM : ∀ q, xk_AM adM q → s.heap.size ≤ q) (hdj : ∀ q, xk_AC adC q → xk_AM adM q → False) (hq : xz_step_next RR) {i : Nat} (hi : i + 5 ≤ L) {sc sm : XS} (hR : RR sc sm) {H : Heap} {locs : List Loc} {ls : Array Slot} (hPC : va_P D classes (xw_C adC cI cZ sc) H) (hPM : va_P D classes (xw_M adM cI cZ sm) H) (hS : va_S (fun q => s.heap.size ≤ q) s.heap H locs) (hl : lv_has ls 4 [(0, .ref b), (1, .ref (adC 0)), (2, .ref (adM 0)), (3, .int (nI i))]) (kk : ∀ (sc2 sm2 : XS) (H : Heap) (locs : List Loc) (ls : Array Slot), RR sc2 sm2 → va_P D classes (xw_C adC cI cZ sc2) H → va_P D classes (xw_M adM cI cZ sm2) H → va_S (fun q => s.heap.size ≤ q) s.heap H locs → lv_has ls 4 [(0, .ref b), (1, .ref (adC 0)), (2, .ref (adM 0)), (3, .int (nI i))] → W p l e room_1 s m #[Value.ref b] below meth c H locs 48 893 (lw_Z below #[Value.ref b] s) (F0 m 891 ls [])) : W p l e room_1 s m #[Value.ref b] below meth c H locs 48 893 (lw_Z below #[Value.ref b] s) (F0 m 555 ls []) := by
  obtain ⟨hx, hb, hr, hml, hown, hts0, hX, hbl, hlocks, hgv⟩ := C0
  have hts : ∀ w ∈ gd_tbl, w.before #[Value.ref b] s = true := fun w h => hts0 w (good_tbl w h).1
  have hbA : ¬ (fun q : Nat => s.heap.size ≤ q) b := Nat.not_le.mpr hbl
  obtain ⟨r, sc2, sm2, h1, h2, hR2⟩ := hq sc sm (xs (i + 1)) (xs (i + 2)) (xs (i + 3)) (xs (i + 4)) hR
  refine lv_aload_n hx hb d_Law_law_555 rfl (lv_at hl 1 rfl) ?_
  refine lv_aload_n hx hb d_Law_law_556 rfl (lv_at hl 0 rfl) ?_
  refine lv_iload_n hx hb d_Law_law_557 rfl (lv_at hl 3 rfl) ?_
  refine lv_iconst (v := (1 : Int32)) hx hb d_Law_law_558 (by decide) ?_
  refine lv_iadd hx hb d_Law_law_559 ?_
  refine va_sld hx hb hX hbl hbA hS (xk_ixin hi hL 1 (by omega)) d_Law_law_560 ?_
  rw [show (nI i + (1 : Int32)).toNatClampNeg = i + 1 from xk_ixcl hi hL 1 (by omega)]
  refine lv_aload_n hx hb d_Law_law_561 rfl (lv_at hl 0 rfl) ?_
  refine lv_iload_n hx hb d_Law_law_562 rfl (lv_at hl 3 rfl) ?_
  refine lv_iconst (v := (2 : Int32)) hx hb d_Law_law_563 (by decide) ?_
  refine lv_iadd hx hb d_Law_law_564 ?_
  refine va_sld hx hb hX hbl hbA hS (xk_ixin hi hL 2 (by omega)) d_Law_law_565 ?_
  rw [show (nI i + (2 : Int32)).toNatClampNeg = i + 2 from xk_ixcl hi hL 2 (by omega)]
  refine lv_aload_n hx hb d_Law_law_566 rfl (lv_at hl 0 rfl) ?_
  refine lv_iload_n hx hb d_Law_law_567 rfl (lv_at hl 3 rfl) ?_
  refine lv_iconst (v := (3 : Int32)) hx hb d_Law_law_568 (by decide) ?_
  refine lv_iadd hx hb d_Law_law_569 ?_
  refine va_sld hx hb hX hbl hbA hS (xk_ixin hi hL 3 (by omega)) d_Law_law_570 ?_
  rw [show (nI i + (3 : Int32)).toNatClampNeg = i + 3 from xk_ixcl hi hL 3 (by omega)]
  refine lv_aload_n hx hb d_Law_law_571 rfl (lv_at hl 0 rfl) ?_
  refine lv_iload_n hx hb d_Law_law_572 rfl (lv_at hl 3 rfl) ?_
  refine lv_iconst (v := (4 : Int32)) hx hb d_Law_law_573 (by decide) ?_
  refine lv_iadd hx hb d_Law_law_574 ?_
  refine va_sld hx hb hX hbl hbA hS (xk_ixin hi hL 4 (by omega)) d_Law_law_575 ?_
  rw [show (nI i + (4 : Int32)).toNatClampNeg = i + 4 from xk_ixcl hi hL 4 (by omega)]
  refine xk_lawI hPM (xk_no (by rw [xw_M_ads]; exact fun a ha hc => hdj a hc ha)) (xk_runV (As := [.int (xs (i + 1)), .int (xs (i + 2)), .int (xs (i + 3)), .int (xs (i + 4))]) (rest := []) hx hb hml hown hts hK hE hAC hPC hS ok_All_next in_All_next u_565 (c_All_next l D cI cZ adC (xk_AC adC) adK adV hDC (xs (i + 1)) (xs (i + 2)) (xs (i + 3)) (xs (i + 4)) sc r sc2 h1) (va_recv hK hPC (ci := 3) (q0 := 0) rfl xw_C_at_0) (by decide) rfl hl.1 rfl (Nat.le_of_ble_eq_true rfl) d_Law_law_576 ⟨by decide, by decide⟩) hAC hS (fun H locs hPC hPM hS => ?_)
  refine lv_aload_n hx hb d_Law_law_579 rfl (lv_at hl 2 rfl) ?_
  refine lv_aload_n hx hb d_Law_law_580 rfl (lv_at hl 0 rfl) ?_
  refine lv_iload_n hx hb d_Law_law_581 rfl (lv_at hl 3 rfl) ?_
  refine lv_iconst (v := (1 : Int32)) hx hb d_Law_law_582 (by decide) ?_
  refine lv_iadd hx hb d_Law_law_583 ?_
  refine va_sld hx hb hX hbl hbA hS (xk_ixin hi hL 1 (by omega)) d_Law_law_584 ?_
  rw [show (nI i + (1 : Int32)).toNatClampNeg = i + 1 from xk_ixcl hi hL 1 (by omega)]
  refine lv_aload_n hx hb d_Law_law_585 rfl (lv_at hl 0 rfl) ?_
  refine lv_iload_n hx hb d_Law_law_586 rfl (lv_at hl 3 rfl) ?_
  refine lv_iconst (v := (2 : Int32)) hx hb d_Law_law_587 (by decide) ?_
  refine lv_iadd hx hb d_Law_law_588 ?_
  refine va_sld hx hb hX hbl hbA hS (xk_ixin hi hL 2 (by omega)) d_Law_law_589 ?_
  rw [show (nI i + (2 : Int32)).toNatClampNeg = i + 2 from xk_ixcl hi hL 2 (by omega)]
  refine lv_aload_n hx hb d_Law_law_590 rfl (lv_at hl 0 rfl) ?_
  refine lv_iload_n hx hb d_Law_law_591 rfl (lv_at hl 3 rfl) ?_
  refine lv_iconst (v := (3 : Int32)) hx hb d_Law_law_592 (by decide) ?_
  refine lv_iadd hx hb d_Law_law_593 ?_
  refine va_sld hx hb hX hbl hbA hS (xk_ixin hi hL 3 (by omega)) d_Law_law_594 ?_
  rw [show (nI i + (3 : Int32)).toNatClampNeg = i + 3 from xk_ixcl hi hL 3 (by omega)]
  refine lv_aload_n hx hb d_Law_law_595 rfl (lv_at hl 0 rfl) ?_
  refine lv_iload_n hx hb d_Law_law_596 rfl (lv_at hl 3 rfl) ?_
  refine lv_iconst (v := (4 : Int32)) hx hb d_Law_law_597 (by decide) ?_
  refine lv_iadd hx hb d_Law_law_598 ?_
  refine va_sld hx hb hX hbl hbA hS (xk_ixin hi hL 4 (by omega)) d_Law_law_599 ?_
  rw [show (nI i + (4 : Int32)).toNatClampNeg = i + 4 from xk_ixcl hi hL 4 (by omega)]
  refine xk_lawI hPC (xk_no (by rw [xw_C_ads]; exact fun a ha hc => hdj a ha hc)) (xk_runV (As := [.int (xs (i + 1)), .int (xs (i + 2)), .int (xs (i + 3)), .int (xs (i + 4))]) (rest := [.int r]) hx hb hml hown hts hK hE hAM hPM hS ok_Mod_next in_Mod_next u_913 (c_Mod_next l D cI cZ adM (xk_AM adM) adK adV hDM (xs (i + 1)) (xs (i + 2)) (xs (i + 3)) (xs (i + 4)) sm r sm2 h2) (va_recv hK hPM (ci := 4) (q0 := 0) rfl xw_M_at_0) (by decide) rfl hl.1 rfl (Nat.le_of_ble_eq_true rfl) d_Law_law_600 ⟨by decide, by decide⟩) hAM hS (fun H locs hPM hPC hS => ?_)
  refine lv_icmp_eq (tgt := 891) hx hb d_Law_law_603 (by decide) (fun _ => ?_) (fun h => absurd rfl h)
  exact kk _ _ H locs ls hR2 hPC hPM hS hl
set_option maxHeartbeats 4000000 in
set_option maxRecDepth 100000 in
theorem xz_case_through {p : Program} {e : Env} {s : State} {m : MethodId} {below : List Frame} {meth : Method} {c : Code} {l : Launch} {b L : Nat} {xs : Nat → Int32} {D : va_G} {cI cZ : ClassId} {adC adM adK adV : Nat → Nat} {RR : XS → XS → Prop} (hL : L ≤ 2560) (C0 : lw_At p s m meth c b L xs) (hK : va_K D classes (xk_tys cI cZ) s) (hE : xk_E (fun q => s.heap.size ≤ q) adK adV s) (hDC : ∀ st : XS, va_D (xk_AC adC) (xw_C adC cI cZ st)) (hDM : ∀ st : XS, va_D (xk_AM adM) (xw_M adM cI cZ st)) (hAC : ∀ q, xk_AC adC q → s.heap.size ≤ q) (hAM : ∀ q, xk_AM adM q → s.heap.size ≤ q) (hdj : ∀ q, xk_AC adC q → xk_AM adM q → False) (hq : xz_step_through RR) {i : Nat} (hi : i + 5 ≤ L) {sc sm : XS} (hR : RR sc sm) {H : Heap} {locs : List Loc} {ls : Array Slot} (hPC : va_P D classes (xw_C adC cI cZ sc) H) (hPM : va_P D classes (xw_M adM cI cZ sm) H) (hS : va_S (fun q => s.heap.size ≤ q) s.heap H locs) (hl : lv_has ls 4 [(0, .ref b), (1, .ref (adC 0)), (2, .ref (adM 0)), (3, .int (nI i))]) (kk : ∀ (sc2 sm2 : XS) (H : Heap) (locs : List Loc) (ls : Array Slot), RR sc2 sm2 → va_P D classes (xw_C adC cI cZ sc2) H → va_P D classes (xw_M adM cI cZ sm2) H → va_S (fun q => s.heap.size ≤ q) s.heap H locs → lv_has ls 4 [(0, .ref b), (1, .ref (adC 0)), (2, .ref (adM 0)), (3, .int (nI i))] → W p l e room_1 s m #[Value.ref b] below meth c H locs 48 893 (lw_Z below #[Value.ref b] s) (F0 m 891 ls [])) : W p l e room_1 s m #[Value.ref b] below meth c H locs 48 893 (lw_Z below #[Value.ref b] s) (F0 m 608 ls []) := by
  obtain ⟨hx, hb, hr, hml, hown, hts0, hX, hbl, hlocks, hgv⟩ := C0
  have hts : ∀ w ∈ gd_tbl, w.before #[Value.ref b] s = true := fun w h => hts0 w (good_tbl w h).1
  have hbA : ¬ (fun q : Nat => s.heap.size ≤ q) b := Nat.not_le.mpr hbl
  obtain ⟨r, sc2, sm2, h1, h2, hR2⟩ := hq sc sm (xs (i + 1)) (xs (i + 2)) (xs (i + 3)) hR
  refine lv_aload_n hx hb d_Law_law_608 rfl (lv_at hl 1 rfl) ?_
  refine lv_aload_n hx hb d_Law_law_609 rfl (lv_at hl 0 rfl) ?_
  refine lv_iload_n hx hb d_Law_law_610 rfl (lv_at hl 3 rfl) ?_
  refine lv_iconst (v := (1 : Int32)) hx hb d_Law_law_611 (by decide) ?_
  refine lv_iadd hx hb d_Law_law_612 ?_
  refine va_sld hx hb hX hbl hbA hS (xk_ixin hi hL 1 (by omega)) d_Law_law_613 ?_
  rw [show (nI i + (1 : Int32)).toNatClampNeg = i + 1 from xk_ixcl hi hL 1 (by omega)]
  refine lv_aload_n hx hb d_Law_law_614 rfl (lv_at hl 0 rfl) ?_
  refine lv_iload_n hx hb d_Law_law_615 rfl (lv_at hl 3 rfl) ?_
  refine lv_iconst (v := (2 : Int32)) hx hb d_Law_law_616 (by decide) ?_
  refine lv_iadd hx hb d_Law_law_617 ?_
  refine va_sld hx hb hX hbl hbA hS (xk_ixin hi hL 2 (by omega)) d_Law_law_618 ?_
  rw [show (nI i + (2 : Int32)).toNatClampNeg = i + 2 from xk_ixcl hi hL 2 (by omega)]
  refine lv_aload_n hx hb d_Law_law_619 rfl (lv_at hl 0 rfl) ?_
  refine lv_iload_n hx hb d_Law_law_620 rfl (lv_at hl 3 rfl) ?_
  refine lv_iconst (v := (3 : Int32)) hx hb d_Law_law_621 (by decide) ?_
  refine lv_iadd hx hb d_Law_law_622 ?_
  refine va_sld hx hb hX hbl hbA hS (xk_ixin hi hL 3 (by omega)) d_Law_law_623 ?_
  rw [show (nI i + (3 : Int32)).toNatClampNeg = i + 3 from xk_ixcl hi hL 3 (by omega)]
  refine xk_lawI hPM (xk_no (by rw [xw_M_ads]; exact fun a ha hc => hdj a hc ha)) (xk_runV (As := [.int (xs (i + 1)), .int (xs (i + 2)), .int (xs (i + 3))]) (rest := []) hx hb hml hown hts hK hE hAC hPC hS ok_All_through in_All_through u_579 (c_All_through l D cI cZ adC (xk_AC adC) adK adV hDC (xs (i + 1)) (xs (i + 2)) (xs (i + 3)) sc r sc2 h1) (va_recv hK hPC (ci := 3) (q0 := 0) rfl xw_C_at_0) (by decide) rfl hl.1 rfl (Nat.le_of_ble_eq_true rfl) d_Law_law_624 ⟨by decide, by decide⟩) hAC hS (fun H locs hPC hPM hS => ?_)
  refine lv_aload_n hx hb d_Law_law_627 rfl (lv_at hl 2 rfl) ?_
  refine lv_aload_n hx hb d_Law_law_628 rfl (lv_at hl 0 rfl) ?_
  refine lv_iload_n hx hb d_Law_law_629 rfl (lv_at hl 3 rfl) ?_
  refine lv_iconst (v := (1 : Int32)) hx hb d_Law_law_630 (by decide) ?_
  refine lv_iadd hx hb d_Law_law_631 ?_
  refine va_sld hx hb hX hbl hbA hS (xk_ixin hi hL 1 (by omega)) d_Law_law_632 ?_
  rw [show (nI i + (1 : Int32)).toNatClampNeg = i + 1 from xk_ixcl hi hL 1 (by omega)]
  refine lv_aload_n hx hb d_Law_law_633 rfl (lv_at hl 0 rfl) ?_
  refine lv_iload_n hx hb d_Law_law_634 rfl (lv_at hl 3 rfl) ?_
  refine lv_iconst (v := (2 : Int32)) hx hb d_Law_law_635 (by decide) ?_
  refine lv_iadd hx hb d_Law_law_636 ?_
  refine va_sld hx hb hX hbl hbA hS (xk_ixin hi hL 2 (by omega)) d_Law_law_637 ?_
  rw [show (nI i + (2 : Int32)).toNatClampNeg = i + 2 from xk_ixcl hi hL 2 (by omega)]
  refine lv_aload_n hx hb d_Law_law_638 rfl (lv_at hl 0 rfl) ?_
  refine lv_iload_n hx hb d_Law_law_639 rfl (lv_at hl 3 rfl) ?_
  refine lv_iconst (v := (3 : Int32)) hx hb d_Law_law_640 (by decide) ?_
  refine lv_iadd hx hb d_Law_law_641 ?_
  refine va_sld hx hb hX hbl hbA hS (xk_ixin hi hL 3 (by omega)) d_Law_law_642 ?_
  rw [show (nI i + (3 : Int32)).toNatClampNeg = i + 3 from xk_ixcl hi hL 3 (by omega)]
  refine xk_lawI hPC (xk_no (by rw [xw_C_ads]; exact fun a ha hc => hdj a ha hc)) (xk_runV (As := [.int (xs (i + 1)), .int (xs (i + 2)), .int (xs (i + 3))]) (rest := [.int r]) hx hb hml hown hts hK hE hAM hPM hS ok_Mod_through in_Mod_through u_925 (c_Mod_through l D cI cZ adM (xk_AM adM) adK adV hDM (xs (i + 1)) (xs (i + 2)) (xs (i + 3)) sm r sm2 h2) (va_recv hK hPM (ci := 4) (q0 := 0) rfl xw_M_at_0) (by decide) rfl hl.1 rfl (Nat.le_of_ble_eq_true rfl) d_Law_law_643 ⟨by decide, by decide⟩) hAM hS (fun H locs hPM hPC hS => ?_)
  refine lv_icmp_eq (tgt := 891) hx hb d_Law_law_646 (by decide) (fun _ => ?_) (fun h => absurd rfl h)
  exact kk _ _ H locs ls hR2 hPC hPM hS hl
set_option maxHeartbeats 4000000 in
set_option maxRecDepth 100000 in
theorem xz_case_spare {p : Program} {e : Env} {s : State} {m : MethodId} {below : List Frame} {meth : Method} {c : Code} {l : Launch} {b L : Nat} {xs : Nat → Int32} {D : va_G} {cI cZ : ClassId} {adC adM adK adV : Nat → Nat} {RR : XS → XS → Prop} (hL : L ≤ 2560) (C0 : lw_At p s m meth c b L xs) (hK : va_K D classes (xk_tys cI cZ) s) (hE : xk_E (fun q => s.heap.size ≤ q) adK adV s) (hDC : ∀ st : XS, va_D (xk_AC adC) (xw_C adC cI cZ st)) (hDM : ∀ st : XS, va_D (xk_AM adM) (xw_M adM cI cZ st)) (hAC : ∀ q, xk_AC adC q → s.heap.size ≤ q) (hAM : ∀ q, xk_AM adM q → s.heap.size ≤ q) (hdj : ∀ q, xk_AC adC q → xk_AM adM q → False) (hq : xz_step_spare RR) {i : Nat} (hi : i + 5 ≤ L) {sc sm : XS} (hR : RR sc sm) {H : Heap} {locs : List Loc} {ls : Array Slot} (hPC : va_P D classes (xw_C adC cI cZ sc) H) (hPM : va_P D classes (xw_M adM cI cZ sm) H) (hS : va_S (fun q => s.heap.size ≤ q) s.heap H locs) (hl : lv_has ls 4 [(0, .ref b), (1, .ref (adC 0)), (2, .ref (adM 0)), (3, .int (nI i))]) (kk : ∀ (sc2 sm2 : XS) (H : Heap) (locs : List Loc) (ls : Array Slot), RR sc2 sm2 → va_P D classes (xw_C adC cI cZ sc2) H → va_P D classes (xw_M adM cI cZ sm2) H → va_S (fun q => s.heap.size ≤ q) s.heap H locs → lv_has ls 4 [(0, .ref b), (1, .ref (adC 0)), (2, .ref (adM 0)), (3, .int (nI i))] → W p l e room_1 s m #[Value.ref b] below meth c H locs 48 893 (lw_Z below #[Value.ref b] s) (F0 m 891 ls [])) : W p l e room_1 s m #[Value.ref b] below meth c H locs 48 893 (lw_Z below #[Value.ref b] s) (F0 m 651 ls []) := by
  obtain ⟨hx, hb, hr, hml, hown, hts0, hX, hbl, hlocks, hgv⟩ := C0
  have hts : ∀ w ∈ gd_tbl, w.before #[Value.ref b] s = true := fun w h => hts0 w (good_tbl w h).1
  have hbA : ¬ (fun q : Nat => s.heap.size ≤ q) b := Nat.not_le.mpr hbl
  obtain ⟨r, sc2, sm2, h1, h2, hR2⟩ := hq sc sm (xs (i + 1)) (xs (i + 2)) hR
  refine lv_aload_n hx hb d_Law_law_651 rfl (lv_at hl 1 rfl) ?_
  refine lv_aload_n hx hb d_Law_law_652 rfl (lv_at hl 0 rfl) ?_
  refine lv_iload_n hx hb d_Law_law_653 rfl (lv_at hl 3 rfl) ?_
  refine lv_iconst (v := (1 : Int32)) hx hb d_Law_law_654 (by decide) ?_
  refine lv_iadd hx hb d_Law_law_655 ?_
  refine va_sld hx hb hX hbl hbA hS (xk_ixin hi hL 1 (by omega)) d_Law_law_656 ?_
  rw [show (nI i + (1 : Int32)).toNatClampNeg = i + 1 from xk_ixcl hi hL 1 (by omega)]
  refine lv_aload_n hx hb d_Law_law_657 rfl (lv_at hl 0 rfl) ?_
  refine lv_iload_n hx hb d_Law_law_658 rfl (lv_at hl 3 rfl) ?_
  refine lv_iconst (v := (2 : Int32)) hx hb d_Law_law_659 (by decide) ?_
  refine lv_iadd hx hb d_Law_law_660 ?_
  refine va_sld hx hb hX hbl hbA hS (xk_ixin hi hL 2 (by omega)) d_Law_law_661 ?_
  rw [show (nI i + (2 : Int32)).toNatClampNeg = i + 2 from xk_ixcl hi hL 2 (by omega)]
  refine xk_lawI hPM (xk_no (by rw [xw_M_ads]; exact fun a ha hc => hdj a hc ha)) (xk_runV (As := [.int (xs (i + 1)), .int (xs (i + 2))]) (rest := []) hx hb hml hown hts hK hE hAC hPC hS ok_All_spare in_All_spare u_583 (c_All_spare l D cI cZ adC (xk_AC adC) adK adV hDC (xs (i + 1)) (xs (i + 2)) sc r sc2 h1) (va_recv hK hPC (ci := 3) (q0 := 0) rfl xw_C_at_0) (by decide) rfl hl.1 rfl (Nat.le_of_ble_eq_true rfl) d_Law_law_662 ⟨by decide, by decide⟩) hAC hS (fun H locs hPC hPM hS => ?_)
  refine lv_aload_n hx hb d_Law_law_665 rfl (lv_at hl 2 rfl) ?_
  refine lv_aload_n hx hb d_Law_law_666 rfl (lv_at hl 0 rfl) ?_
  refine lv_iload_n hx hb d_Law_law_667 rfl (lv_at hl 3 rfl) ?_
  refine lv_iconst (v := (1 : Int32)) hx hb d_Law_law_668 (by decide) ?_
  refine lv_iadd hx hb d_Law_law_669 ?_
  refine va_sld hx hb hX hbl hbA hS (xk_ixin hi hL 1 (by omega)) d_Law_law_670 ?_
  rw [show (nI i + (1 : Int32)).toNatClampNeg = i + 1 from xk_ixcl hi hL 1 (by omega)]
  refine lv_aload_n hx hb d_Law_law_671 rfl (lv_at hl 0 rfl) ?_
  refine lv_iload_n hx hb d_Law_law_672 rfl (lv_at hl 3 rfl) ?_
  refine lv_iconst (v := (2 : Int32)) hx hb d_Law_law_673 (by decide) ?_
  refine lv_iadd hx hb d_Law_law_674 ?_
  refine va_sld hx hb hX hbl hbA hS (xk_ixin hi hL 2 (by omega)) d_Law_law_675 ?_
  rw [show (nI i + (2 : Int32)).toNatClampNeg = i + 2 from xk_ixcl hi hL 2 (by omega)]
  refine xk_lawI hPC (xk_no (by rw [xw_C_ads]; exact fun a ha hc => hdj a ha hc)) (xk_runV (As := [.int (xs (i + 1)), .int (xs (i + 2))]) (rest := [.int r]) hx hb hml hown hts hK hE hAM hPM hS ok_Mod_spare in_Mod_spare u_929 (c_Mod_spare l D cI cZ adM (xk_AM adM) adK adV hDM (xs (i + 1)) (xs (i + 2)) sm r sm2 h2) (va_recv hK hPM (ci := 4) (q0 := 0) rfl xw_M_at_0) (by decide) rfl hl.1 rfl (Nat.le_of_ble_eq_true rfl) d_Law_law_676 ⟨by decide, by decide⟩) hAM hS (fun H locs hPM hPC hS => ?_)
  refine lv_icmp_eq (tgt := 891) hx hb d_Law_law_679 (by decide) (fun _ => ?_) (fun h => absurd rfl h)
  exact kk _ _ H locs ls hR2 hPC hPM hS hl
set_option maxHeartbeats 4000000 in
set_option maxRecDepth 100000 in
theorem xz_case_most {p : Program} {e : Env} {s : State} {m : MethodId} {below : List Frame} {meth : Method} {c : Code} {l : Launch} {b L : Nat} {xs : Nat → Int32} {D : va_G} {cI cZ : ClassId} {adC adM adK adV : Nat → Nat} {RR : XS → XS → Prop} (hL : L ≤ 2560) (C0 : lw_At p s m meth c b L xs) (hK : va_K D classes (xk_tys cI cZ) s) (hE : xk_E (fun q => s.heap.size ≤ q) adK adV s) (hDC : ∀ st : XS, va_D (xk_AC adC) (xw_C adC cI cZ st)) (hDM : ∀ st : XS, va_D (xk_AM adM) (xw_M adM cI cZ st)) (hAC : ∀ q, xk_AC adC q → s.heap.size ≤ q) (hAM : ∀ q, xk_AM adM q → s.heap.size ≤ q) (hdj : ∀ q, xk_AC adC q → xk_AM adM q → False) (hq : xz_step_most RR) {i : Nat} (hi : i + 5 ≤ L) {sc sm : XS} (hR : RR sc sm) {H : Heap} {locs : List Loc} {ls : Array Slot} (hPC : va_P D classes (xw_C adC cI cZ sc) H) (hPM : va_P D classes (xw_M adM cI cZ sm) H) (hS : va_S (fun q => s.heap.size ≤ q) s.heap H locs) (hl : lv_has ls 4 [(0, .ref b), (1, .ref (adC 0)), (2, .ref (adM 0)), (3, .int (nI i))]) (kk : ∀ (sc2 sm2 : XS) (H : Heap) (locs : List Loc) (ls : Array Slot), RR sc2 sm2 → va_P D classes (xw_C adC cI cZ sc2) H → va_P D classes (xw_M adM cI cZ sm2) H → va_S (fun q => s.heap.size ≤ q) s.heap H locs → lv_has ls 4 [(0, .ref b), (1, .ref (adC 0)), (2, .ref (adM 0)), (3, .int (nI i))] → W p l e room_1 s m #[Value.ref b] below meth c H locs 48 893 (lw_Z below #[Value.ref b] s) (F0 m 891 ls [])) : W p l e room_1 s m #[Value.ref b] below meth c H locs 48 893 (lw_Z below #[Value.ref b] s) (F0 m 684 ls []) := by
  obtain ⟨hx, hb, hr, hml, hown, hts0, hX, hbl, hlocks, hgv⟩ := C0
  have hts : ∀ w ∈ gd_tbl, w.before #[Value.ref b] s = true := fun w h => hts0 w (good_tbl w h).1
  have hbA : ¬ (fun q : Nat => s.heap.size ≤ q) b := Nat.not_le.mpr hbl
  obtain ⟨r, sc2, sm2, h1, h2, hR2⟩ := hq sc sm (xs (i + 1)) (xs (i + 2)) hR
  refine lv_aload_n hx hb d_Law_law_684 rfl (lv_at hl 1 rfl) ?_
  refine lv_aload_n hx hb d_Law_law_685 rfl (lv_at hl 0 rfl) ?_
  refine lv_iload_n hx hb d_Law_law_686 rfl (lv_at hl 3 rfl) ?_
  refine lv_iconst (v := (1 : Int32)) hx hb d_Law_law_687 (by decide) ?_
  refine lv_iadd hx hb d_Law_law_688 ?_
  refine va_sld hx hb hX hbl hbA hS (xk_ixin hi hL 1 (by omega)) d_Law_law_689 ?_
  rw [show (nI i + (1 : Int32)).toNatClampNeg = i + 1 from xk_ixcl hi hL 1 (by omega)]
  refine lv_aload_n hx hb d_Law_law_690 rfl (lv_at hl 0 rfl) ?_
  refine lv_iload_n hx hb d_Law_law_691 rfl (lv_at hl 3 rfl) ?_
  refine lv_iconst (v := (2 : Int32)) hx hb d_Law_law_692 (by decide) ?_
  refine lv_iadd hx hb d_Law_law_693 ?_
  refine va_sld hx hb hX hbl hbA hS (xk_ixin hi hL 2 (by omega)) d_Law_law_694 ?_
  rw [show (nI i + (2 : Int32)).toNatClampNeg = i + 2 from xk_ixcl hi hL 2 (by omega)]
  refine xk_lawI hPM (xk_no (by rw [xw_M_ads]; exact fun a ha hc => hdj a hc ha)) (xk_runV (As := [.int (xs (i + 1)), .int (xs (i + 2))]) (rest := []) hx hb hml hown hts hK hE hAC hPC hS ok_All_most in_All_most u_596 (c_All_most l D cI cZ adC (xk_AC adC) adK adV hDC (xs (i + 1)) (xs (i + 2)) sc r sc2 h1) (va_recv hK hPC (ci := 3) (q0 := 0) rfl xw_C_at_0) (by decide) rfl hl.1 rfl (Nat.le_of_ble_eq_true rfl) d_Law_law_695 ⟨by decide, by decide⟩) hAC hS (fun H locs hPC hPM hS => ?_)
  refine lv_aload_n hx hb d_Law_law_698 rfl (lv_at hl 2 rfl) ?_
  refine lv_aload_n hx hb d_Law_law_699 rfl (lv_at hl 0 rfl) ?_
  refine lv_iload_n hx hb d_Law_law_700 rfl (lv_at hl 3 rfl) ?_
  refine lv_iconst (v := (1 : Int32)) hx hb d_Law_law_701 (by decide) ?_
  refine lv_iadd hx hb d_Law_law_702 ?_
  refine va_sld hx hb hX hbl hbA hS (xk_ixin hi hL 1 (by omega)) d_Law_law_703 ?_
  rw [show (nI i + (1 : Int32)).toNatClampNeg = i + 1 from xk_ixcl hi hL 1 (by omega)]
  refine lv_aload_n hx hb d_Law_law_704 rfl (lv_at hl 0 rfl) ?_
  refine lv_iload_n hx hb d_Law_law_705 rfl (lv_at hl 3 rfl) ?_
  refine lv_iconst (v := (2 : Int32)) hx hb d_Law_law_706 (by decide) ?_
  refine lv_iadd hx hb d_Law_law_707 ?_
  refine va_sld hx hb hX hbl hbA hS (xk_ixin hi hL 2 (by omega)) d_Law_law_708 ?_
  rw [show (nI i + (2 : Int32)).toNatClampNeg = i + 2 from xk_ixcl hi hL 2 (by omega)]
  refine xk_lawI hPC (xk_no (by rw [xw_C_ads]; exact fun a ha hc => hdj a ha hc)) (xk_runV (As := [.int (xs (i + 1)), .int (xs (i + 2))]) (rest := [.int r]) hx hb hml hown hts hK hE hAM hPM hS ok_Mod_most in_Mod_most u_933 (c_Mod_most l D cI cZ adM (xk_AM adM) adK adV hDM (xs (i + 1)) (xs (i + 2)) sm r sm2 h2) (va_recv hK hPM (ci := 4) (q0 := 0) rfl xw_M_at_0) (by decide) rfl hl.1 rfl (Nat.le_of_ble_eq_true rfl) d_Law_law_709 ⟨by decide, by decide⟩) hAM hS (fun H locs hPM hPC hS => ?_)
  refine lv_icmp_eq (tgt := 891) hx hb d_Law_law_712 (by decide) (fun _ => ?_) (fun h => absurd rfl h)
  exact kk _ _ H locs ls hR2 hPC hPM hS hl
set_option maxHeartbeats 4000000 in
set_option maxRecDepth 100000 in
theorem xz_case_fear {p : Program} {e : Env} {s : State} {m : MethodId} {below : List Frame} {meth : Method} {c : Code} {l : Launch} {b L : Nat} {xs : Nat → Int32} {D : va_G} {cI cZ : ClassId} {adC adM adK adV : Nat → Nat} {RR : XS → XS → Prop} (hL : L ≤ 2560) (C0 : lw_At p s m meth c b L xs) (hK : va_K D classes (xk_tys cI cZ) s) (hE : xk_E (fun q => s.heap.size ≤ q) adK adV s) (hDC : ∀ st : XS, va_D (xk_AC adC) (xw_C adC cI cZ st)) (hDM : ∀ st : XS, va_D (xk_AM adM) (xw_M adM cI cZ st)) (hAC : ∀ q, xk_AC adC q → s.heap.size ≤ q) (hAM : ∀ q, xk_AM adM q → s.heap.size ≤ q) (hdj : ∀ q, xk_AC adC q → xk_AM adM q → False) (hq : xz_step_fear RR) {i : Nat} (hi : i + 5 ≤ L) {sc sm : XS} (hR : RR sc sm) {H : Heap} {locs : List Loc} {ls : Array Slot} (hPC : va_P D classes (xw_C adC cI cZ sc) H) (hPM : va_P D classes (xw_M adM cI cZ sm) H) (hS : va_S (fun q => s.heap.size ≤ q) s.heap H locs) (hl : lv_has ls 4 [(0, .ref b), (1, .ref (adC 0)), (2, .ref (adM 0)), (3, .int (nI i))]) (kk : ∀ (sc2 sm2 : XS) (H : Heap) (locs : List Loc) (ls : Array Slot), RR sc2 sm2 → va_P D classes (xw_C adC cI cZ sc2) H → va_P D classes (xw_M adM cI cZ sm2) H → va_S (fun q => s.heap.size ≤ q) s.heap H locs → lv_has ls 4 [(0, .ref b), (1, .ref (adC 0)), (2, .ref (adM 0)), (3, .int (nI i))] → W p l e room_1 s m #[Value.ref b] below meth c H locs 48 893 (lw_Z below #[Value.ref b] s) (F0 m 891 ls [])) : W p l e room_1 s m #[Value.ref b] below meth c H locs 48 893 (lw_Z below #[Value.ref b] s) (F0 m 717 ls []) := by
  obtain ⟨hx, hb, hr, hml, hown, hts0, hX, hbl, hlocks, hgv⟩ := C0
  have hts : ∀ w ∈ gd_tbl, w.before #[Value.ref b] s = true := fun w h => hts0 w (good_tbl w h).1
  have hbA : ¬ (fun q : Nat => s.heap.size ≤ q) b := Nat.not_le.mpr hbl
  obtain ⟨r, sc2, sm2, h1, h2, hR2⟩ := hq sc sm (xs (i + 1)) (xs (i + 2)) hR
  refine lv_aload_n hx hb d_Law_law_717 rfl (lv_at hl 1 rfl) ?_
  refine lv_aload_n hx hb d_Law_law_718 rfl (lv_at hl 0 rfl) ?_
  refine lv_iload_n hx hb d_Law_law_719 rfl (lv_at hl 3 rfl) ?_
  refine lv_iconst (v := (1 : Int32)) hx hb d_Law_law_720 (by decide) ?_
  refine lv_iadd hx hb d_Law_law_721 ?_
  refine va_sld hx hb hX hbl hbA hS (xk_ixin hi hL 1 (by omega)) d_Law_law_722 ?_
  rw [show (nI i + (1 : Int32)).toNatClampNeg = i + 1 from xk_ixcl hi hL 1 (by omega)]
  refine lv_aload_n hx hb d_Law_law_723 rfl (lv_at hl 0 rfl) ?_
  refine lv_iload_n hx hb d_Law_law_724 rfl (lv_at hl 3 rfl) ?_
  refine lv_iconst (v := (2 : Int32)) hx hb d_Law_law_725 (by decide) ?_
  refine lv_iadd hx hb d_Law_law_726 ?_
  refine va_sld hx hb hX hbl hbA hS (xk_ixin hi hL 2 (by omega)) d_Law_law_727 ?_
  rw [show (nI i + (2 : Int32)).toNatClampNeg = i + 2 from xk_ixcl hi hL 2 (by omega)]
  refine xk_lawI hPM (xk_no (by rw [xw_M_ads]; exact fun a ha hc => hdj a hc ha)) (xk_runV (As := [.int (xs (i + 1)), .int (xs (i + 2))]) (rest := []) hx hb hml hown hts hK hE hAC hPC hS ok_All_fear in_All_fear u_605 (c_All_fear l D cI cZ adC (xk_AC adC) adK adV hDC (xs (i + 1)) (xs (i + 2)) sc r sc2 h1) (va_recv hK hPC (ci := 3) (q0 := 0) rfl xw_C_at_0) (by decide) rfl hl.1 rfl (Nat.le_of_ble_eq_true rfl) d_Law_law_728 ⟨by decide, by decide⟩) hAC hS (fun H locs hPC hPM hS => ?_)
  refine lv_aload_n hx hb d_Law_law_731 rfl (lv_at hl 2 rfl) ?_
  refine lv_aload_n hx hb d_Law_law_732 rfl (lv_at hl 0 rfl) ?_
  refine lv_iload_n hx hb d_Law_law_733 rfl (lv_at hl 3 rfl) ?_
  refine lv_iconst (v := (1 : Int32)) hx hb d_Law_law_734 (by decide) ?_
  refine lv_iadd hx hb d_Law_law_735 ?_
  refine va_sld hx hb hX hbl hbA hS (xk_ixin hi hL 1 (by omega)) d_Law_law_736 ?_
  rw [show (nI i + (1 : Int32)).toNatClampNeg = i + 1 from xk_ixcl hi hL 1 (by omega)]
  refine lv_aload_n hx hb d_Law_law_737 rfl (lv_at hl 0 rfl) ?_
  refine lv_iload_n hx hb d_Law_law_738 rfl (lv_at hl 3 rfl) ?_
  refine lv_iconst (v := (2 : Int32)) hx hb d_Law_law_739 (by decide) ?_
  refine lv_iadd hx hb d_Law_law_740 ?_
  refine va_sld hx hb hX hbl hbA hS (xk_ixin hi hL 2 (by omega)) d_Law_law_741 ?_
  rw [show (nI i + (2 : Int32)).toNatClampNeg = i + 2 from xk_ixcl hi hL 2 (by omega)]
  refine xk_lawI hPC (xk_no (by rw [xw_C_ads]; exact fun a ha hc => hdj a ha hc)) (xk_runV (As := [.int (xs (i + 1)), .int (xs (i + 2))]) (rest := [.int r]) hx hb hml hown hts hK hE hAM hPM hS ok_Mod_fear in_Mod_fear u_937 (c_Mod_fear l D cI cZ adM (xk_AM adM) adK adV hDM (xs (i + 1)) (xs (i + 2)) sm r sm2 h2) (va_recv hK hPM (ci := 4) (q0 := 0) rfl xw_M_at_0) (by decide) rfl hl.1 rfl (Nat.le_of_ble_eq_true rfl) d_Law_law_742 ⟨by decide, by decide⟩) hAM hS (fun H locs hPM hPC hS => ?_)
  refine lv_icmp_eq (tgt := 891) hx hb d_Law_law_745 (by decide) (fun _ => ?_) (fun h => absurd rfl h)
  exact kk _ _ H locs ls hR2 hPC hPM hS hl
set_option maxHeartbeats 4000000 in
set_option maxRecDepth 100000 in
theorem xz_case_taken {p : Program} {e : Env} {s : State} {m : MethodId} {below : List Frame} {meth : Method} {c : Code} {l : Launch} {b L : Nat} {xs : Nat → Int32} {D : va_G} {cI cZ : ClassId} {adC adM adK adV : Nat → Nat} {RR : XS → XS → Prop} (hL : L ≤ 2560) (C0 : lw_At p s m meth c b L xs) (hK : va_K D classes (xk_tys cI cZ) s) (hE : xk_E (fun q => s.heap.size ≤ q) adK adV s) (hDC : ∀ st : XS, va_D (xk_AC adC) (xw_C adC cI cZ st)) (hDM : ∀ st : XS, va_D (xk_AM adM) (xw_M adM cI cZ st)) (hAC : ∀ q, xk_AC adC q → s.heap.size ≤ q) (hAM : ∀ q, xk_AM adM q → s.heap.size ≤ q) (hdj : ∀ q, xk_AC adC q → xk_AM adM q → False) (hq : xz_step_taken RR) {i : Nat} (hi : i + 5 ≤ L) {sc sm : XS} (hR : RR sc sm) {H : Heap} {locs : List Loc} {ls : Array Slot} (hPC : va_P D classes (xw_C adC cI cZ sc) H) (hPM : va_P D classes (xw_M adM cI cZ sm) H) (hS : va_S (fun q => s.heap.size ≤ q) s.heap H locs) (hl : lv_has ls 4 [(0, .ref b), (1, .ref (adC 0)), (2, .ref (adM 0)), (3, .int (nI i))]) (kk : ∀ (sc2 sm2 : XS) (H : Heap) (locs : List Loc) (ls : Array Slot), RR sc2 sm2 → va_P D classes (xw_C adC cI cZ sc2) H → va_P D classes (xw_M adM cI cZ sm2) H → va_S (fun q => s.heap.size ≤ q) s.heap H locs → lv_has ls 4 [(0, .ref b), (1, .ref (adC 0)), (2, .ref (adM 0)), (3, .int (nI i))] → W p l e room_1 s m #[Value.ref b] below meth c H locs 48 893 (lw_Z below #[Value.ref b] s) (F0 m 891 ls [])) : W p l e room_1 s m #[Value.ref b] below meth c H locs 48 893 (lw_Z below #[Value.ref b] s) (F0 m 750 ls []) := by
  obtain ⟨hx, hb, hr, hml, hown, hts0, hX, hbl, hlocks, hgv⟩ := C0
  have hts : ∀ w ∈ gd_tbl, w.before #[Value.ref b] s = true := fun w h => hts0 w (good_tbl w h).1
  have hbA : ¬ (fun q : Nat => s.heap.size ≤ q) b := Nat.not_le.mpr hbl
  obtain ⟨r, sc2, sm2, h1, h2, hR2⟩ := hq sc sm (xs (i + 1)) hR
  refine lv_aload_n hx hb d_Law_law_750 rfl (lv_at hl 1 rfl) ?_
  refine lv_aload_n hx hb d_Law_law_751 rfl (lv_at hl 0 rfl) ?_
  refine lv_iload_n hx hb d_Law_law_752 rfl (lv_at hl 3 rfl) ?_
  refine lv_iconst (v := (1 : Int32)) hx hb d_Law_law_753 (by decide) ?_
  refine lv_iadd hx hb d_Law_law_754 ?_
  refine va_sld hx hb hX hbl hbA hS (xk_ixin hi hL 1 (by omega)) d_Law_law_755 ?_
  rw [show (nI i + (1 : Int32)).toNatClampNeg = i + 1 from xk_ixcl hi hL 1 (by omega)]
  refine xk_lawI hPM (xk_no (by rw [xw_M_ads]; exact fun a ha hc => hdj a hc ha)) (xk_runV (As := [.int (xs (i + 1))]) (rest := []) hx hb hml hown hts hK hE hAC hPC hS ok_All_taken in_All_taken u_613 (c_All_taken l D cI cZ adC (xk_AC adC) adK adV hDC (xs (i + 1)) sc r sc2 h1) (va_recv hK hPC (ci := 3) (q0 := 0) rfl xw_C_at_0) (by decide) rfl hl.1 rfl (Nat.le_of_ble_eq_true rfl) d_Law_law_756 ⟨by decide, by decide⟩) hAC hS (fun H locs hPC hPM hS => ?_)
  refine lv_aload_n hx hb d_Law_law_759 rfl (lv_at hl 2 rfl) ?_
  refine lv_aload_n hx hb d_Law_law_760 rfl (lv_at hl 0 rfl) ?_
  refine lv_iload_n hx hb d_Law_law_761 rfl (lv_at hl 3 rfl) ?_
  refine lv_iconst (v := (1 : Int32)) hx hb d_Law_law_762 (by decide) ?_
  refine lv_iadd hx hb d_Law_law_763 ?_
  refine va_sld hx hb hX hbl hbA hS (xk_ixin hi hL 1 (by omega)) d_Law_law_764 ?_
  rw [show (nI i + (1 : Int32)).toNatClampNeg = i + 1 from xk_ixcl hi hL 1 (by omega)]
  refine xk_lawI hPC (xk_no (by rw [xw_C_ads]; exact fun a ha hc => hdj a ha hc)) (xk_runV (As := [.int (xs (i + 1))]) (rest := [.int r]) hx hb hml hown hts hK hE hAM hPM hS ok_Mod_taken in_Mod_taken u_941 (c_Mod_taken l D cI cZ adM (xk_AM adM) adK adV hDM (xs (i + 1)) sm r sm2 h2) (va_recv hK hPM (ci := 4) (q0 := 0) rfl xw_M_at_0) (by decide) rfl hl.1 rfl (Nat.le_of_ble_eq_true rfl) d_Law_law_765 ⟨by decide, by decide⟩) hAM hS (fun H locs hPM hPC hS => ?_)
  refine lv_icmp_eq (tgt := 891) hx hb d_Law_law_768 (by decide) (fun _ => ?_) (fun h => absurd rfl h)
  exact kk _ _ H locs ls hR2 hPC hPM hS hl
set_option maxHeartbeats 4000000 in
set_option maxRecDepth 100000 in
theorem xz_case_row {p : Program} {e : Env} {s : State} {m : MethodId} {below : List Frame} {meth : Method} {c : Code} {l : Launch} {b L : Nat} {xs : Nat → Int32} {D : va_G} {cI cZ : ClassId} {adC adM adK adV : Nat → Nat} {RR : XS → XS → Prop} (hL : L ≤ 2560) (C0 : lw_At p s m meth c b L xs) (hK : va_K D classes (xk_tys cI cZ) s) (hE : xk_E (fun q => s.heap.size ≤ q) adK adV s) (hDC : ∀ st : XS, va_D (xk_AC adC) (xw_C adC cI cZ st)) (hDM : ∀ st : XS, va_D (xk_AM adM) (xw_M adM cI cZ st)) (hAC : ∀ q, xk_AC adC q → s.heap.size ≤ q) (hAM : ∀ q, xk_AM adM q → s.heap.size ≤ q) (hdj : ∀ q, xk_AC adC q → xk_AM adM q → False) (hq : xz_step_row RR) {i : Nat} (hi : i + 5 ≤ L) {sc sm : XS} (hR : RR sc sm) {H : Heap} {locs : List Loc} {ls : Array Slot} (hPC : va_P D classes (xw_C adC cI cZ sc) H) (hPM : va_P D classes (xw_M adM cI cZ sm) H) (hS : va_S (fun q => s.heap.size ≤ q) s.heap H locs) (hl : lv_has ls 4 [(0, .ref b), (1, .ref (adC 0)), (2, .ref (adM 0)), (3, .int (nI i))]) (kk : ∀ (sc2 sm2 : XS) (H : Heap) (locs : List Loc) (ls : Array Slot), RR sc2 sm2 → va_P D classes (xw_C adC cI cZ sc2) H → va_P D classes (xw_M adM cI cZ sm2) H → va_S (fun q => s.heap.size ≤ q) s.heap H locs → lv_has ls 4 [(0, .ref b), (1, .ref (adC 0)), (2, .ref (adM 0)), (3, .int (nI i))] → W p l e room_1 s m #[Value.ref b] below meth c H locs 48 893 (lw_Z below #[Value.ref b] s) (F0 m 891 ls [])) : W p l e room_1 s m #[Value.ref b] below meth c H locs 48 893 (lw_Z below #[Value.ref b] s) (F0 m 773 ls []) := by
  obtain ⟨hx, hb, hr, hml, hown, hts0, hX, hbl, hlocks, hgv⟩ := C0
  have hts : ∀ w ∈ gd_tbl, w.before #[Value.ref b] s = true := fun w h => hts0 w (good_tbl w h).1
  have hbA : ¬ (fun q : Nat => s.heap.size ≤ q) b := Nat.not_le.mpr hbl
  obtain ⟨r, sc2, sm2, h1, h2, hR2⟩ := hq sc sm (xs (i + 1)) hR
  refine lv_aload_n hx hb d_Law_law_773 rfl (lv_at hl 1 rfl) ?_
  refine lv_aload_n hx hb d_Law_law_774 rfl (lv_at hl 0 rfl) ?_
  refine lv_iload_n hx hb d_Law_law_775 rfl (lv_at hl 3 rfl) ?_
  refine lv_iconst (v := (1 : Int32)) hx hb d_Law_law_776 (by decide) ?_
  refine lv_iadd hx hb d_Law_law_777 ?_
  refine va_sld hx hb hX hbl hbA hS (xk_ixin hi hL 1 (by omega)) d_Law_law_778 ?_
  rw [show (nI i + (1 : Int32)).toNatClampNeg = i + 1 from xk_ixcl hi hL 1 (by omega)]
  refine xk_lawI hPM (xk_no (by rw [xw_M_ads]; exact fun a ha hc => hdj a hc ha)) (xk_runV (As := [.int (xs (i + 1))]) (rest := []) hx hb hml hown hts hK hE hAC hPC hS ok_All_row in_All_row u_626 (c_All_row l D cI cZ adC (xk_AC adC) adK adV hDC (xs (i + 1)) sc r sc2 h1) (va_recv hK hPC (ci := 3) (q0 := 0) rfl xw_C_at_0) (by decide) rfl hl.1 rfl (Nat.le_of_ble_eq_true rfl) d_Law_law_779 ⟨by decide, by decide⟩) hAC hS (fun H locs hPC hPM hS => ?_)
  refine lv_aload_n hx hb d_Law_law_782 rfl (lv_at hl 2 rfl) ?_
  refine lv_aload_n hx hb d_Law_law_783 rfl (lv_at hl 0 rfl) ?_
  refine lv_iload_n hx hb d_Law_law_784 rfl (lv_at hl 3 rfl) ?_
  refine lv_iconst (v := (1 : Int32)) hx hb d_Law_law_785 (by decide) ?_
  refine lv_iadd hx hb d_Law_law_786 ?_
  refine va_sld hx hb hX hbl hbA hS (xk_ixin hi hL 1 (by omega)) d_Law_law_787 ?_
  rw [show (nI i + (1 : Int32)).toNatClampNeg = i + 1 from xk_ixcl hi hL 1 (by omega)]
  refine xk_lawI hPC (xk_no (by rw [xw_C_ads]; exact fun a ha hc => hdj a ha hc)) (xk_runV (As := [.int (xs (i + 1))]) (rest := [.int r]) hx hb hml hown hts hK hE hAM hPM hS ok_Mod_row in_Mod_row u_949 (c_Mod_row l D cI cZ adM (xk_AM adM) adK adV hDM (xs (i + 1)) sm r sm2 h2) (va_recv hK hPM (ci := 4) (q0 := 0) rfl xw_M_at_0) (by decide) rfl hl.1 rfl (Nat.le_of_ble_eq_true rfl) d_Law_law_788 ⟨by decide, by decide⟩) hAM hS (fun H locs hPM hPC hS => ?_)
  refine lv_icmp_eq (tgt := 891) hx hb d_Law_law_791 (by decide) (fun _ => ?_) (fun h => absurd rfl h)
  exact kk _ _ H locs ls hR2 hPC hPM hS hl
set_option maxHeartbeats 4000000 in
set_option maxRecDepth 100000 in
theorem xz_case_judge {p : Program} {e : Env} {s : State} {m : MethodId} {below : List Frame} {meth : Method} {c : Code} {l : Launch} {b L : Nat} {xs : Nat → Int32} {D : va_G} {cI cZ : ClassId} {adC adM adK adV : Nat → Nat} {RR : XS → XS → Prop} (hL : L ≤ 2560) (C0 : lw_At p s m meth c b L xs) (hK : va_K D classes (xk_tys cI cZ) s) (hE : xk_E (fun q => s.heap.size ≤ q) adK adV s) (hDC : ∀ st : XS, va_D (xk_AC adC) (xw_C adC cI cZ st)) (hDM : ∀ st : XS, va_D (xk_AM adM) (xw_M adM cI cZ st)) (hAC : ∀ q, xk_AC adC q → s.heap.size ≤ q) (hAM : ∀ q, xk_AM adM q → s.heap.size ≤ q) (hdj : ∀ q, xk_AC adC q → xk_AM adM q → False) (hq : xz_step_judge RR) {i : Nat} (hi : i + 5 ≤ L) {sc sm : XS} (hR : RR sc sm) {H : Heap} {locs : List Loc} {ls : Array Slot} (hPC : va_P D classes (xw_C adC cI cZ sc) H) (hPM : va_P D classes (xw_M adM cI cZ sm) H) (hS : va_S (fun q => s.heap.size ≤ q) s.heap H locs) (hl : lv_has ls 4 [(0, .ref b), (1, .ref (adC 0)), (2, .ref (adM 0)), (3, .int (nI i))]) (kk : ∀ (sc2 sm2 : XS) (H : Heap) (locs : List Loc) (ls : Array Slot), RR sc2 sm2 → va_P D classes (xw_C adC cI cZ sc2) H → va_P D classes (xw_M adM cI cZ sm2) H → va_S (fun q => s.heap.size ≤ q) s.heap H locs → lv_has ls 4 [(0, .ref b), (1, .ref (adC 0)), (2, .ref (adM 0)), (3, .int (nI i))] → W p l e room_1 s m #[Value.ref b] below meth c H locs 48 893 (lw_Z below #[Value.ref b] s) (F0 m 891 ls [])) : W p l e room_1 s m #[Value.ref b] below meth c H locs 48 893 (lw_Z below #[Value.ref b] s) (F0 m 796 ls []) := by
  obtain ⟨hx, hb, hr, hml, hown, hts0, hX, hbl, hlocks, hgv⟩ := C0
  have hts : ∀ w ∈ gd_tbl, w.before #[Value.ref b] s = true := fun w h => hts0 w (good_tbl w h).1
  have hbA : ¬ (fun q : Nat => s.heap.size ≤ q) b := Nat.not_le.mpr hbl
  obtain ⟨r, sc2, sm2, h1, h2, hR2⟩ := hq sc sm  hR
  refine lv_aload_n hx hb d_Law_law_796 rfl (lv_at hl 1 rfl) ?_
  refine xk_lawI hPM (xk_no (by rw [xw_M_ads]; exact fun a ha hc => hdj a hc ha)) (xk_runV (As := []) (rest := []) hx hb hml hown hts hK hE hAC hPC hS ok_All_judge in_All_judge u_630 (c_All_judge l D cI cZ adC (xk_AC adC) adK adV hDC  sc r sc2 h1) (va_recv hK hPC (ci := 3) (q0 := 0) rfl xw_C_at_0) (by decide) rfl hl.1 rfl (Nat.le_of_ble_eq_true rfl) d_Law_law_797 ⟨by decide, by decide⟩) hAC hS (fun H locs hPC hPM hS => ?_)
  refine lv_aload_n hx hb d_Law_law_800 rfl (lv_at hl 2 rfl) ?_
  refine xk_lawI hPC (xk_no (by rw [xw_C_ads]; exact fun a ha hc => hdj a ha hc)) (xk_runV (As := []) (rest := [.int r]) hx hb hml hown hts hK hE hAM hPM hS ok_Mod_judge in_Mod_judge u_953 (c_Mod_judge l D cI cZ adM (xk_AM adM) adK adV hDM  sm r sm2 h2) (va_recv hK hPM (ci := 4) (q0 := 0) rfl xw_M_at_0) (by decide) rfl hl.1 rfl (Nat.le_of_ble_eq_true rfl) d_Law_law_801 ⟨by decide, by decide⟩) hAM hS (fun H locs hPM hPC hS => ?_)
  refine lv_icmp_eq (tgt := 891) hx hb d_Law_law_804 (by decide) (fun _ => ?_) (fun h => absurd rfl h)
  exact kk _ _ H locs ls hR2 hPC hPM hS hl
set_option maxHeartbeats 4000000 in
set_option maxRecDepth 100000 in
theorem xz_case_seeds {p : Program} {e : Env} {s : State} {m : MethodId} {below : List Frame} {meth : Method} {c : Code} {l : Launch} {b L : Nat} {xs : Nat → Int32} {D : va_G} {cI cZ : ClassId} {adC adM adK adV : Nat → Nat} {RR : XS → XS → Prop} (hL : L ≤ 2560) (C0 : lw_At p s m meth c b L xs) (hK : va_K D classes (xk_tys cI cZ) s) (hE : xk_E (fun q => s.heap.size ≤ q) adK adV s) (hDC : ∀ st : XS, va_D (xk_AC adC) (xw_C adC cI cZ st)) (hDM : ∀ st : XS, va_D (xk_AM adM) (xw_M adM cI cZ st)) (hAC : ∀ q, xk_AC adC q → s.heap.size ≤ q) (hAM : ∀ q, xk_AM adM q → s.heap.size ≤ q) (hdj : ∀ q, xk_AC adC q → xk_AM adM q → False) (hq : xz_step_seeds RR) {i : Nat} (hi : i + 5 ≤ L) {sc sm : XS} (hR : RR sc sm) {H : Heap} {locs : List Loc} {ls : Array Slot} (hPC : va_P D classes (xw_C adC cI cZ sc) H) (hPM : va_P D classes (xw_M adM cI cZ sm) H) (hS : va_S (fun q => s.heap.size ≤ q) s.heap H locs) (hl : lv_has ls 4 [(0, .ref b), (1, .ref (adC 0)), (2, .ref (adM 0)), (3, .int (nI i))]) (kk : ∀ (sc2 sm2 : XS) (H : Heap) (locs : List Loc) (ls : Array Slot), RR sc2 sm2 → va_P D classes (xw_C adC cI cZ sc2) H → va_P D classes (xw_M adM cI cZ sm2) H → va_S (fun q => s.heap.size ≤ q) s.heap H locs → lv_has ls 4 [(0, .ref b), (1, .ref (adC 0)), (2, .ref (adM 0)), (3, .int (nI i))] → W p l e room_1 s m #[Value.ref b] below meth c H locs 48 893 (lw_Z below #[Value.ref b] s) (F0 m 891 ls [])) : W p l e room_1 s m #[Value.ref b] below meth c H locs 48 893 (lw_Z below #[Value.ref b] s) (F0 m 809 ls []) := by
  obtain ⟨hx, hb, hr, hml, hown, hts0, hX, hbl, hlocks, hgv⟩ := C0
  have hts : ∀ w ∈ gd_tbl, w.before #[Value.ref b] s = true := fun w h => hts0 w (good_tbl w h).1
  have hbA : ¬ (fun q : Nat => s.heap.size ≤ q) b := Nat.not_le.mpr hbl
  obtain ⟨r, sc2, sm2, h1, h2, hR2⟩ := hq sc sm (xs (i + 1)) (xs (i + 2)) hR
  refine lv_aload_n hx hb d_Law_law_809 rfl (lv_at hl 1 rfl) ?_
  refine lv_aload_n hx hb d_Law_law_810 rfl (lv_at hl 0 rfl) ?_
  refine lv_iload_n hx hb d_Law_law_811 rfl (lv_at hl 3 rfl) ?_
  refine lv_iconst (v := (1 : Int32)) hx hb d_Law_law_812 (by decide) ?_
  refine lv_iadd hx hb d_Law_law_813 ?_
  refine va_sld hx hb hX hbl hbA hS (xk_ixin hi hL 1 (by omega)) d_Law_law_814 ?_
  rw [show (nI i + (1 : Int32)).toNatClampNeg = i + 1 from xk_ixcl hi hL 1 (by omega)]
  refine lv_aload_n hx hb d_Law_law_815 rfl (lv_at hl 0 rfl) ?_
  refine lv_iload_n hx hb d_Law_law_816 rfl (lv_at hl 3 rfl) ?_
  refine lv_iconst (v := (2 : Int32)) hx hb d_Law_law_817 (by decide) ?_
  refine lv_iadd hx hb d_Law_law_818 ?_
  refine va_sld hx hb hX hbl hbA hS (xk_ixin hi hL 2 (by omega)) d_Law_law_819 ?_
  rw [show (nI i + (2 : Int32)).toNatClampNeg = i + 2 from xk_ixcl hi hL 2 (by omega)]
  refine xk_lawI hPM (xk_no (by rw [xw_M_ads]; exact fun a ha hc => hdj a hc ha)) (xk_runV (As := [.int (xs (i + 1)), .int (xs (i + 2))]) (rest := []) hx hb hml hown hts hK hE hAC hPC hS ok_All_seeds in_All_seeds u_634 (c_All_seeds l D cI cZ adC (xk_AC adC) adK adV hDC (xs (i + 1)) (xs (i + 2)) sc r sc2 h1) (va_recv hK hPC (ci := 3) (q0 := 0) rfl xw_C_at_0) (by decide) rfl hl.1 rfl (Nat.le_of_ble_eq_true rfl) d_Law_law_820 ⟨by decide, by decide⟩) hAC hS (fun H locs hPC hPM hS => ?_)
  refine lv_aload_n hx hb d_Law_law_823 rfl (lv_at hl 2 rfl) ?_
  refine lv_aload_n hx hb d_Law_law_824 rfl (lv_at hl 0 rfl) ?_
  refine lv_iload_n hx hb d_Law_law_825 rfl (lv_at hl 3 rfl) ?_
  refine lv_iconst (v := (1 : Int32)) hx hb d_Law_law_826 (by decide) ?_
  refine lv_iadd hx hb d_Law_law_827 ?_
  refine va_sld hx hb hX hbl hbA hS (xk_ixin hi hL 1 (by omega)) d_Law_law_828 ?_
  rw [show (nI i + (1 : Int32)).toNatClampNeg = i + 1 from xk_ixcl hi hL 1 (by omega)]
  refine lv_aload_n hx hb d_Law_law_829 rfl (lv_at hl 0 rfl) ?_
  refine lv_iload_n hx hb d_Law_law_830 rfl (lv_at hl 3 rfl) ?_
  refine lv_iconst (v := (2 : Int32)) hx hb d_Law_law_831 (by decide) ?_
  refine lv_iadd hx hb d_Law_law_832 ?_
  refine va_sld hx hb hX hbl hbA hS (xk_ixin hi hL 2 (by omega)) d_Law_law_833 ?_
  rw [show (nI i + (2 : Int32)).toNatClampNeg = i + 2 from xk_ixcl hi hL 2 (by omega)]
  refine xk_lawI hPC (xk_no (by rw [xw_C_ads]; exact fun a ha hc => hdj a ha hc)) (xk_runV (As := [.int (xs (i + 1)), .int (xs (i + 2))]) (rest := [.int r]) hx hb hml hown hts hK hE hAM hPM hS ok_Mod_seeds in_Mod_seeds u_957 (c_Mod_seeds l D cI cZ adM (xk_AM adM) adK adV hDM (xs (i + 1)) (xs (i + 2)) sm r sm2 h2) (va_recv hK hPM (ci := 4) (q0 := 0) rfl xw_M_at_0) (by decide) rfl hl.1 rfl (Nat.le_of_ble_eq_true rfl) d_Law_law_834 ⟨by decide, by decide⟩) hAM hS (fun H locs hPM hPC hS => ?_)
  refine lv_icmp_eq (tgt := 891) hx hb d_Law_law_837 (by decide) (fun _ => ?_) (fun h => absurd rfl h)
  exact kk _ _ H locs ls hR2 hPC hPM hS hl
set_option maxHeartbeats 4000000 in
set_option maxRecDepth 100000 in
theorem xz_case_image {p : Program} {e : Env} {s : State} {m : MethodId} {below : List Frame} {meth : Method} {c : Code} {l : Launch} {b L : Nat} {xs : Nat → Int32} {D : va_G} {cI cZ : ClassId} {adC adM adK adV : Nat → Nat} {RR : XS → XS → Prop} (hL : L ≤ 2560) (C0 : lw_At p s m meth c b L xs) (hK : va_K D classes (xk_tys cI cZ) s) (hE : xk_E (fun q => s.heap.size ≤ q) adK adV s) (hDC : ∀ st : XS, va_D (xk_AC adC) (xw_C adC cI cZ st)) (hDM : ∀ st : XS, va_D (xk_AM adM) (xw_M adM cI cZ st)) (hAC : ∀ q, xk_AC adC q → s.heap.size ≤ q) (hAM : ∀ q, xk_AM adM q → s.heap.size ≤ q) (hdj : ∀ q, xk_AC adC q → xk_AM adM q → False) (hq : xz_step_image RR) {i : Nat} (hi : i + 5 ≤ L) {sc sm : XS} (hR : RR sc sm) {H : Heap} {locs : List Loc} {ls : Array Slot} (hPC : va_P D classes (xw_C adC cI cZ sc) H) (hPM : va_P D classes (xw_M adM cI cZ sm) H) (hS : va_S (fun q => s.heap.size ≤ q) s.heap H locs) (hl : lv_has ls 4 [(0, .ref b), (1, .ref (adC 0)), (2, .ref (adM 0)), (3, .int (nI i))]) (kk : ∀ (sc2 sm2 : XS) (H : Heap) (locs : List Loc) (ls : Array Slot), RR sc2 sm2 → va_P D classes (xw_C adC cI cZ sc2) H → va_P D classes (xw_M adM cI cZ sm2) H → va_S (fun q => s.heap.size ≤ q) s.heap H locs → lv_has ls 4 [(0, .ref b), (1, .ref (adC 0)), (2, .ref (adM 0)), (3, .int (nI i))] → W p l e room_1 s m #[Value.ref b] below meth c H locs 48 893 (lw_Z below #[Value.ref b] s) (F0 m 891 ls [])) : W p l e room_1 s m #[Value.ref b] below meth c H locs 48 893 (lw_Z below #[Value.ref b] s) (F0 m 842 ls []) := by
  obtain ⟨hx, hb, hr, hml, hown, hts0, hX, hbl, hlocks, hgv⟩ := C0
  have hts : ∀ w ∈ gd_tbl, w.before #[Value.ref b] s = true := fun w h => hts0 w (good_tbl w h).1
  have hbA : ¬ (fun q : Nat => s.heap.size ≤ q) b := Nat.not_le.mpr hbl
  obtain ⟨r, sc2, sm2, h1, h2, hR2⟩ := hq sc sm  hR
  refine lv_aload_n hx hb d_Law_law_842 rfl (lv_at hl 1 rfl) ?_
  refine xk_lawI hPM (xk_no (by rw [xw_M_ads]; exact fun a ha hc => hdj a hc ha)) (xk_runV (As := []) (rest := []) hx hb hml hown hts hK hE hAC hPC hS ok_All_image in_All_image u_648 (c_All_image l D cI cZ adC (xk_AC adC) adK adV hDC  sc r sc2 h1) (va_recv hK hPC (ci := 3) (q0 := 0) rfl xw_C_at_0) (by decide) rfl hl.1 rfl (Nat.le_of_ble_eq_true rfl) d_Law_law_843 ⟨by decide, by decide⟩) hAC hS (fun H locs hPC hPM hS => ?_)
  refine lv_aload_n hx hb d_Law_law_846 rfl (lv_at hl 2 rfl) ?_
  refine xk_lawI hPC (xk_no (by rw [xw_C_ads]; exact fun a ha hc => hdj a ha hc)) (xk_runV (As := []) (rest := [.int r]) hx hb hml hown hts hK hE hAM hPM hS ok_Mod_image in_Mod_image u_965 (c_Mod_image l D cI cZ adM (xk_AM adM) adK adV hDM  sm r sm2 h2) (va_recv hK hPM (ci := 4) (q0 := 0) rfl xw_M_at_0) (by decide) rfl hl.1 rfl (Nat.le_of_ble_eq_true rfl) d_Law_law_847 ⟨by decide, by decide⟩) hAM hS (fun H locs hPM hPC hS => ?_)
  refine lv_icmp_eq (tgt := 891) hx hb d_Law_law_850 (by decide) (fun _ => ?_) (fun h => absurd rfl h)
  exact kk _ _ H locs ls hR2 hPC hPM hS hl
set_option maxHeartbeats 4000000 in
set_option maxRecDepth 100000 in
theorem xz_case_on {p : Program} {e : Env} {s : State} {m : MethodId} {below : List Frame} {meth : Method} {c : Code} {l : Launch} {b L : Nat} {xs : Nat → Int32} {D : va_G} {cI cZ : ClassId} {adC adM adK adV : Nat → Nat} {RR : XS → XS → Prop} (hL : L ≤ 2560) (C0 : lw_At p s m meth c b L xs) (hK : va_K D classes (xk_tys cI cZ) s) (hE : xk_E (fun q => s.heap.size ≤ q) adK adV s) (hDC : ∀ st : XS, va_D (xk_AC adC) (xw_C adC cI cZ st)) (hDM : ∀ st : XS, va_D (xk_AM adM) (xw_M adM cI cZ st)) (hAC : ∀ q, xk_AC adC q → s.heap.size ≤ q) (hAM : ∀ q, xk_AM adM q → s.heap.size ≤ q) (hdj : ∀ q, xk_AC adC q → xk_AM adM q → False) (hq : xz_step_on RR) {i : Nat} (hi : i + 5 ≤ L) {sc sm : XS} (hR : RR sc sm) {H : Heap} {locs : List Loc} {ls : Array Slot} (hPC : va_P D classes (xw_C adC cI cZ sc) H) (hPM : va_P D classes (xw_M adM cI cZ sm) H) (hS : va_S (fun q => s.heap.size ≤ q) s.heap H locs) (hl : lv_has ls 4 [(0, .ref b), (1, .ref (adC 0)), (2, .ref (adM 0)), (3, .int (nI i))]) (kk : ∀ (sc2 sm2 : XS) (H : Heap) (locs : List Loc) (ls : Array Slot), RR sc2 sm2 → va_P D classes (xw_C adC cI cZ sc2) H → va_P D classes (xw_M adM cI cZ sm2) H → va_S (fun q => s.heap.size ≤ q) s.heap H locs → lv_has ls 4 [(0, .ref b), (1, .ref (adC 0)), (2, .ref (adM 0)), (3, .int (nI i))] → W p l e room_1 s m #[Value.ref b] below meth c H locs 48 893 (lw_Z below #[Value.ref b] s) (F0 m 891 ls [])) : W p l e room_1 s m #[Value.ref b] below meth c H locs 48 893 (lw_Z below #[Value.ref b] s) (F0 m 855 ls []) := by
  obtain ⟨hx, hb, hr, hml, hown, hts0, hX, hbl, hlocks, hgv⟩ := C0
  have hts : ∀ w ∈ gd_tbl, w.before #[Value.ref b] s = true := fun w h => hts0 w (good_tbl w h).1
  have hbA : ¬ (fun q : Nat => s.heap.size ≤ q) b := Nat.not_le.mpr hbl
  obtain ⟨r, sc2, sm2, h1, h2, hR2⟩ := hq sc sm  hR
  refine lv_aload_n hx hb d_Law_law_855 rfl (lv_at hl 1 rfl) ?_
  refine xk_lawI hPM (xk_no (by rw [xw_M_ads]; exact fun a ha hc => hdj a hc ha)) (xk_runV (As := []) (rest := []) hx hb hml hown hts hK hE hAC hPC hS ok_All_on in_All_on u_652 (c_All_on l D cI cZ adC (xk_AC adC) adK adV hDC  sc r sc2 h1) (va_recv hK hPC (ci := 3) (q0 := 0) rfl xw_C_at_0) (by decide) rfl hl.1 rfl (Nat.le_of_ble_eq_true rfl) d_Law_law_856 ⟨by decide, by decide⟩) hAC hS (fun H locs hPC hPM hS => ?_)
  refine lv_aload_n hx hb d_Law_law_859 rfl (lv_at hl 2 rfl) ?_
  refine xk_lawI hPC (xk_no (by rw [xw_C_ads]; exact fun a ha hc => hdj a ha hc)) (xk_runV (As := []) (rest := [.int r]) hx hb hml hown hts hK hE hAM hPM hS ok_Mod_on in_Mod_on u_969 (c_Mod_on l D cI cZ adM (xk_AM adM) adK adV hDM  sm r sm2 h2) (va_recv hK hPM (ci := 4) (q0 := 0) rfl xw_M_at_0) (by decide) rfl hl.1 rfl (Nat.le_of_ble_eq_true rfl) d_Law_law_860 ⟨by decide, by decide⟩) hAM hS (fun H locs hPM hPC hS => ?_)
  refine lv_icmp_eq (tgt := 891) hx hb d_Law_law_863 (by decide) (fun _ => ?_) (fun h => absurd rfl h)
  exact kk _ _ H locs ls hR2 hPC hPM hS hl
set_option maxHeartbeats 4000000 in
set_option maxRecDepth 100000 in
theorem xz_case_count {p : Program} {e : Env} {s : State} {m : MethodId} {below : List Frame} {meth : Method} {c : Code} {l : Launch} {b L : Nat} {xs : Nat → Int32} {D : va_G} {cI cZ : ClassId} {adC adM adK adV : Nat → Nat} {RR : XS → XS → Prop} (hL : L ≤ 2560) (C0 : lw_At p s m meth c b L xs) (hK : va_K D classes (xk_tys cI cZ) s) (hE : xk_E (fun q => s.heap.size ≤ q) adK adV s) (hDC : ∀ st : XS, va_D (xk_AC adC) (xw_C adC cI cZ st)) (hDM : ∀ st : XS, va_D (xk_AM adM) (xw_M adM cI cZ st)) (hAC : ∀ q, xk_AC adC q → s.heap.size ≤ q) (hAM : ∀ q, xk_AM adM q → s.heap.size ≤ q) (hdj : ∀ q, xk_AC adC q → xk_AM adM q → False) (hq : xz_step_count RR) {i : Nat} (hi : i + 5 ≤ L) {sc sm : XS} (hR : RR sc sm) {H : Heap} {locs : List Loc} {ls : Array Slot} (hPC : va_P D classes (xw_C adC cI cZ sc) H) (hPM : va_P D classes (xw_M adM cI cZ sm) H) (hS : va_S (fun q => s.heap.size ≤ q) s.heap H locs) (hl : lv_has ls 4 [(0, .ref b), (1, .ref (adC 0)), (2, .ref (adM 0)), (3, .int (nI i))]) (kk : ∀ (sc2 sm2 : XS) (H : Heap) (locs : List Loc) (ls : Array Slot), RR sc2 sm2 → va_P D classes (xw_C adC cI cZ sc2) H → va_P D classes (xw_M adM cI cZ sm2) H → va_S (fun q => s.heap.size ≤ q) s.heap H locs → lv_has ls 4 [(0, .ref b), (1, .ref (adC 0)), (2, .ref (adM 0)), (3, .int (nI i))] → W p l e room_1 s m #[Value.ref b] below meth c H locs 48 893 (lw_Z below #[Value.ref b] s) (F0 m 891 ls [])) : W p l e room_1 s m #[Value.ref b] below meth c H locs 48 893 (lw_Z below #[Value.ref b] s) (F0 m 868 ls []) := by
  obtain ⟨hx, hb, hr, hml, hown, hts0, hX, hbl, hlocks, hgv⟩ := C0
  have hts : ∀ w ∈ gd_tbl, w.before #[Value.ref b] s = true := fun w h => hts0 w (good_tbl w h).1
  have hbA : ¬ (fun q : Nat => s.heap.size ≤ q) b := Nat.not_le.mpr hbl
  obtain ⟨r, sc2, sm2, h1, h2, hR2, e1, e2⟩ := hq sc sm (xs (i + 1)) hR
  subst e1
  subst e2
  refine lv_aload_n hx hb d_Law_law_868 rfl (lv_at hl 1 rfl) ?_
  refine lv_aload_n hx hb d_Law_law_869 rfl (lv_at hl 0 rfl) ?_
  refine lv_iload_n hx hb d_Law_law_870 rfl (lv_at hl 3 rfl) ?_
  refine lv_iconst (v := (1 : Int32)) hx hb d_Law_law_871 (by decide) ?_
  refine lv_iadd hx hb d_Law_law_872 ?_
  refine va_sld hx hb hX hbl hbA hS (xk_ixin hi hL 1 (by omega)) d_Law_law_873 ?_
  rw [show (nI i + (1 : Int32)).toNatClampNeg = i + 1 from xk_ixcl hi hL 1 (by omega)]
  refine xk_lawI hPM (xk_no (by rw [xw_M_ads]; exact fun a ha hc => hdj a hc ha)) (xk_runV (As := [.int (xs (i + 1))]) (rest := []) hx hb hml hown hts hK hE hAC hPC hS ok_All_count in_All_count u_656 (c_All_count l D cI cZ adC (xk_AC adC) adK adV hDC (xs (i + 1)) sc r h1) (va_recv hK hPC (ci := 3) (q0 := 0) rfl xw_C_at_0) (by decide) rfl hl.1 rfl (Nat.le_of_ble_eq_true rfl) d_Law_law_874 ⟨by decide, by decide⟩) hAC hS (fun H locs hPC hPM hS => ?_)
  refine lv_aload_n hx hb d_Law_law_877 rfl (lv_at hl 2 rfl) ?_
  refine lv_aload_n hx hb d_Law_law_878 rfl (lv_at hl 0 rfl) ?_
  refine lv_iload_n hx hb d_Law_law_879 rfl (lv_at hl 3 rfl) ?_
  refine lv_iconst (v := (1 : Int32)) hx hb d_Law_law_880 (by decide) ?_
  refine lv_iadd hx hb d_Law_law_881 ?_
  refine va_sld hx hb hX hbl hbA hS (xk_ixin hi hL 1 (by omega)) d_Law_law_882 ?_
  rw [show (nI i + (1 : Int32)).toNatClampNeg = i + 1 from xk_ixcl hi hL 1 (by omega)]
  refine xk_lawI hPC (xk_no (by rw [xw_C_ads]; exact fun a ha hc => hdj a ha hc)) (xk_runV (As := [.int (xs (i + 1))]) (rest := [.int r]) hx hb hml hown hts hK hE hAM hPM hS ok_Mod_count in_Mod_count u_973 (c_Mod_count l D cI cZ adM (xk_AM adM) adK adV hDM (xs (i + 1)) sm r h2) (va_recv hK hPM (ci := 4) (q0 := 0) rfl xw_M_at_0) (by decide) rfl hl.1 rfl (Nat.le_of_ble_eq_true rfl) d_Law_law_883 ⟨by decide, by decide⟩) hAM hS (fun H locs hPM hPC hS => ?_)
  refine lv_icmp_eq (tgt := 891) hx hb d_Law_law_886 (by decide) (fun _ => ?_) (fun h => absurd rfl h)
  exact kk _ _ H locs ls hR2 hPC hPM hS hl
set_option maxHeartbeats 4000000 in
set_option maxRecDepth 100000 in
theorem xz_exit {p : Program} {l : Launch} {e : Env} {s : State} {m : MethodId} {below : List Frame} {meth : Method} {c : Code} {b L : Nat} {xs : Nat → Int32} {adC adM : Nat → Nat} (hL : L ≤ 2560) (C0 : lw_At p s m meth c b L xs) {i : Nat} (hi : i ≤ L + 5) {H : Heap} {locs : List Loc} {ls : Array Slot} (hS : va_S (fun q => s.heap.size ≤ q) s.heap H locs) (hl : lv_has ls 4 [(0, .ref b), (1, .ref (adC 0)), (2, .ref (adM 0)), (3, .int (nI i))])
    (kk : i + 5 ≤ L → W p l e room_1 s m #[Value.ref b] below meth c H locs 48 893 (lw_Z below #[Value.ref b] s) (F0 m 26 ls [])) : W p l e room_1 s m #[Value.ref b] below meth c H locs 48 893 (lw_Z below #[Value.ref b] s) (F0 m 18 ls []) := by
  obtain ⟨hx, hb, hr, hml, hown, hts0, hX, hbl, hlocks, hgv⟩ := C0
  have hbA : ¬ (fun q : Nat => s.heap.size ≤ q) b := Nat.not_le.mpr hbl
  refine lv_iload_n hx hb d_Law_law_18 rfl (lv_at hl 3 rfl) ?_
  refine lv_aload_n hx hb d_Law_law_19 rfl (lv_at hl 0 rfl) ?_
  refine va_slen hx hb hX hbl hbA hS d_Law_law_20 ?_
  refine lv_iconst (v := (5 : Int32)) hx hb d_Law_law_21 (by decide) ?_
  refine lv_isub hx hb d_Law_law_22 ?_
  have e0 : (nI i).toInt = (i : Int) := nI_toInt (by omega)
  have e1 : (nI L - nI 5).toInt = (L : Int) - 5 := pk_sub_toInt (by omega) (by omega)
  refine lv_icmp_gt (tgt := 897) hx hb d_Law_law_23 (by decide) (fun h => ?_) (fun h => ?_)
  · refine lv_iconst (v := (1 : Int32)) hx hb d_Law_law_897 (by decide) ?_
    refine va_forget (fun q hq => hS.2.2 q hq) ?_
    exact lw_ret hx hb hr hlocks d_Law_law_898
  · refine kk ?_
    have h2 : ¬ (nI L - nI 5).toInt < (nI i).toInt := fun q => h (Int32.lt_iff_toInt_lt.mpr q)
    rw [e0, e1] at h2
    omega
set_option maxHeartbeats 4000000 in
set_option maxRecDepth 100000 in
theorem xz_loop {p : Program} {e : Env} {s : State} {m : MethodId} {below : List Frame} {meth : Method} {c : Code} {l : Launch} {b L : Nat} {xs : Nat → Int32} {D : va_G} {cI cZ : ClassId} {adC adM adK adV : Nat → Nat} {RR : XS → XS → Prop} (hst : xz_steps RR) (hL : L ≤ 2560) (C0 : lw_At p s m meth c b L xs) (hK : va_K D classes (xk_tys cI cZ) s) (hE : xk_E (fun q => s.heap.size ≤ q) adK adV s) (hDC : ∀ st : XS, va_D (xk_AC adC) (xw_C adC cI cZ st)) (hDM : ∀ st : XS, va_D (xk_AM adM) (xw_M adM cI cZ st)) (hAC : ∀ q, xk_AC adC q → s.heap.size ≤ q) (hAM : ∀ q, xk_AM adM q → s.heap.size ≤ q) (hdj : ∀ q, xk_AC adC q → xk_AM adM q → False) : ∀ (n i : Nat), L + 5 ≤ i + 5 * n → i ≤ L + 5 → ∀ (sc sm : XS), RR sc sm → ∀ (H : Heap) (locs : List Loc) (ls : Array Slot), va_P D classes (xw_C adC cI cZ sc) H → va_P D classes (xw_M adM cI cZ sm) H → va_S (fun q => s.heap.size ≤ q) s.heap H locs → lv_has ls 4 [(0, .ref b), (1, .ref (adC 0)), (2, .ref (adM 0)), (3, .int (nI i))] → W p l e room_1 s m #[Value.ref b] below meth c H locs 48 893 (lw_Z below #[Value.ref b] s) (F0 m 18 ls []) := by
  obtain ⟨hx, hb, hr, hml, hown, hts0, hX, hbl, hlocks, hgv⟩ := id C0
  have hts : ∀ w ∈ gd_tbl, w.before #[Value.ref b] s = true := fun w h => hts0 w (good_tbl w h).1
  have hbA : ¬ (fun q : Nat => s.heap.size ≤ q) b := Nat.not_le.mpr hbl
  obtain ⟨q_letter, q_town, q_street, q_plot, q_crossing, q_quarters, q_open, q_with, q_corners, q_sides, q_isOpen, q_whole, q_points, q_lamps, q_where, q_together, q_steps, q_next, q_through, q_spare, q_most, q_fear, q_taken, q_row, q_judge, q_seeds, q_image, q_on, q_count⟩ := hst
  intro n
  induction n with
  | zero =>
    intro i hn hi sc sm hR H locs ls hPC hPM hS hl
    exact xz_exit hL C0 hi hS hl (fun h => absurd h (by omega))
  | succ n ih =>
    intro i hn hi sc sm hR H locs ls hPC hPM hS hl
    refine xz_exit hL C0 hi hS hl (fun hi5 => ?_)
    refine lv_aload_n hx hb d_Law_law_26 rfl (lv_at hl 0 rfl) ?_
    refine lv_iload_n hx hb d_Law_law_27 rfl (lv_at hl 3 rfl) ?_
    refine va_sld hx hb hX hbl hbA hS (vp_in_nI (by omega) (by omega)) d_Law_law_28 ?_
    rw [nI_clamp (show i < 2 ^ 31 by omega)]
    refine lv_bipush (v := (31 : Int32)) hx hb d_Law_law_29 (by decide) ?_
    refine lv_iand hx hb d_Law_law_31 ?_
    have next : ∀ (sc2 sm2 : XS) (H : Heap) (locs : List Loc) (ls : Array Slot), RR sc2 sm2 → va_P D classes (xw_C adC cI cZ sc2) H → va_P D classes (xw_M adM cI cZ sm2) H → va_S (fun q => s.heap.size ≤ q) s.heap H locs → lv_has ls 4 [(0, .ref b), (1, .ref (adC 0)), (2, .ref (adM 0)), (3, .int (nI i))] → W p l e room_1 s m #[Value.ref b] below meth c H locs 48 893 (lw_Z below #[Value.ref b] s) (F0 m 891 ls []) := by
      intro sc2 sm2 H locs ls hR hPC hPM hS hl
      refine lv_iinc (v := nI (i + 5)) (lv' := [(3, .int (nI (i + 5))), (0, .ref b), (1, .ref (adC 0)), (2, .ref (adM 0))]) hx hb d_Law_law_891 hl (k := 3) rfl (nI_add i 5) (by decide) rfl (fun ls hl => ?_)
      refine lv_goto (tgt := 18) hx hb d_Law_law_894 (by decide) ?_
      exact ih (i + 5) (by omega) (by omega) sc2 sm2 hR H locs ls hPC hPM hS (lv_sub hl [1, 2, 3, 0] rfl)
    obtain ⟨j, hj, ej⟩ := pk_andE (xs i) (m := 31) 5 rfl
    rw [ej]
    have ht : (nI j).toInt = (j : Int) := nI_toInt (by omega)
    by_cases hd : j < 29
    · have hcs : j = 0 ∨ j = 1 ∨ j = 2 ∨ j = 3 ∨ j = 4 ∨ j = 5 ∨ j = 6 ∨ j = 7 ∨ j = 8 ∨ j = 9 ∨ j = 10 ∨ j = 11 ∨ j = 12 ∨ j = 13 ∨ j = 14 ∨ j = 15 ∨ j = 16 ∨ j = 17 ∨ j = 18 ∨ j = 19 ∨ j = 20 ∨ j = 21 ∨ j = 22 ∨ j = 23 ∨ j = 24 ∨ j = 25 ∨ j = 26 ∨ j = 27 ∨ j = 28 := by omega
      rcases hcs with rfl | rfl | rfl | rfl | rfl | rfl | rfl | rfl | rfl | rfl | rfl | rfl | rfl | rfl | rfl | rfl | rfl | rfl | rfl | rfl | rfl | rfl | rfl | rfl | rfl | rfl | rfl | rfl | rfl
      · refine lv_tableIn (off := 132) (tgt := 164) hx hb d_Law_law_32 (by decide) (by decide) (by decide) (by decide) ?_
        exact xz_case_letter hL C0 hK hE hDC hDM hAC hAM hdj q_letter hi5 hR hPC hPM hS hl next
      · refine lv_tableIn (off := 155) (tgt := 187) hx hb d_Law_law_32 (by decide) (by decide) (by decide) (by decide) ?_
        exact xz_case_town hL C0 hK hE hDC hDM hAC hAM hdj q_town hi5 hR hPC hPM hS hl next
      · refine lv_tableIn (off := 168) (tgt := 200) hx hb d_Law_law_32 (by decide) (by decide) (by decide) (by decide) ?_
        exact xz_case_street hL C0 hK hE hDC hDM hAC hAM hdj q_street hi5 hR hPC hPM hS hl next
      · refine lv_tableIn (off := 201) (tgt := 233) hx hb d_Law_law_32 (by decide) (by decide) (by decide) (by decide) ?_
        exact xz_case_plot hL C0 hK hE hDC hDM hAC hAM hdj q_plot hi5 hR hPC hPM hS hl next
      · refine lv_tableIn (off := 234) (tgt := 266) hx hb d_Law_law_32 (by decide) (by decide) (by decide) (by decide) ?_
        exact xz_case_crossing hL C0 hK hE hDC hDM hAC hAM hdj q_crossing hi5 hR hPC hPM hS hl next
      · refine lv_tableIn (off := 277) (tgt := 309) hx hb d_Law_law_32 (by decide) (by decide) (by decide) (by decide) ?_
        exact xz_case_quarters hL C0 hK hE hDC hDM hAC hAM hdj q_quarters hi5 hR hPC hPM hS hl next
      · refine lv_tableIn (off := 290) (tgt := 322) hx hb d_Law_law_32 (by decide) (by decide) (by decide) (by decide) ?_
        exact xz_case_open hL C0 hK hE hDC hDM hAC hAM hdj q_open hi5 hR hPC hPM hS hl next
      · refine lv_tableIn (off := 303) (tgt := 335) hx hb d_Law_law_32 (by decide) (by decide) (by decide) (by decide) ?_
        exact xz_case_with hL C0 hK hE hDC hDM hAC hAM hdj q_with hi5 hR hPC hPM hS hl next
      · refine lv_tableIn (off := 326) (tgt := 358) hx hb d_Law_law_32 (by decide) (by decide) (by decide) (by decide) ?_
        exact xz_case_corners hL C0 hK hE hDC hDM hAC hAM hdj q_corners hi5 hR hPC hPM hS hl next
      · refine lv_tableIn (off := 349) (tgt := 381) hx hb d_Law_law_32 (by decide) (by decide) (by decide) (by decide) ?_
        exact xz_case_sides hL C0 hK hE hDC hDM hAC hAM hdj q_sides hi5 hR hPC hPM hS hl next
      · refine lv_tableIn (off := 372) (tgt := 404) hx hb d_Law_law_32 (by decide) (by decide) (by decide) (by decide) ?_
        exact xz_case_isOpen hL C0 hK hE hDC hDM hAC hAM hdj q_isOpen hi5 hR hPC hPM hS hl next
      · refine lv_tableIn (off := 395) (tgt := 427) hx hb d_Law_law_32 (by decide) (by decide) (by decide) (by decide) ?_
        exact xz_case_whole hL C0 hK hE hDC hDM hAC hAM hdj q_whole hi5 hR hPC hPM hS hl next
      · refine lv_tableIn (off := 408) (tgt := 440) hx hb d_Law_law_32 (by decide) (by decide) (by decide) (by decide) ?_
        exact xz_case_points hL C0 hK hE hDC hDM hAC hAM hdj q_points hi5 hR hPC hPM hS hl next
      · refine lv_tableIn (off := 431) (tgt := 463) hx hb d_Law_law_32 (by decide) (by decide) (by decide) (by decide) ?_
        exact xz_case_lamps hL C0 hK hE hDC hDM hAC hAM hdj q_lamps hi5 hR hPC hPM hS hl next
      · refine lv_tableIn (off := 444) (tgt := 476) hx hb d_Law_law_32 (by decide) (by decide) (by decide) (by decide) ?_
        exact xz_case_where hL C0 hK hE hDC hDM hAC hAM hdj q_where hi5 hR hPC hPM hS hl next
      · refine lv_tableIn (off := 467) (tgt := 499) hx hb d_Law_law_32 (by decide) (by decide) (by decide) (by decide) ?_
        exact xz_case_together hL C0 hK hE hDC hDM hAC hAM hdj q_together hi5 hR hPC hPM hS hl next
      · refine lv_tableIn (off := 490) (tgt := 522) hx hb d_Law_law_32 (by decide) (by decide) (by decide) (by decide) ?_
        exact xz_case_steps hL C0 hK hE hDC hDM hAC hAM hdj q_steps hi5 hR hPC hPM hS hl next
      · refine lv_tableIn (off := 523) (tgt := 555) hx hb d_Law_law_32 (by decide) (by decide) (by decide) (by decide) ?_
        exact xz_case_next hL C0 hK hE hDC hDM hAC hAM hdj q_next hi5 hR hPC hPM hS hl next
      · refine lv_tableIn (off := 576) (tgt := 608) hx hb d_Law_law_32 (by decide) (by decide) (by decide) (by decide) ?_
        exact xz_case_through hL C0 hK hE hDC hDM hAC hAM hdj q_through hi5 hR hPC hPM hS hl next
      · refine lv_tableIn (off := 619) (tgt := 651) hx hb d_Law_law_32 (by decide) (by decide) (by decide) (by decide) ?_
        exact xz_case_spare hL C0 hK hE hDC hDM hAC hAM hdj q_spare hi5 hR hPC hPM hS hl next
      · refine lv_tableIn (off := 652) (tgt := 684) hx hb d_Law_law_32 (by decide) (by decide) (by decide) (by decide) ?_
        exact xz_case_most hL C0 hK hE hDC hDM hAC hAM hdj q_most hi5 hR hPC hPM hS hl next
      · refine lv_tableIn (off := 685) (tgt := 717) hx hb d_Law_law_32 (by decide) (by decide) (by decide) (by decide) ?_
        exact xz_case_fear hL C0 hK hE hDC hDM hAC hAM hdj q_fear hi5 hR hPC hPM hS hl next
      · refine lv_tableIn (off := 718) (tgt := 750) hx hb d_Law_law_32 (by decide) (by decide) (by decide) (by decide) ?_
        exact xz_case_taken hL C0 hK hE hDC hDM hAC hAM hdj q_taken hi5 hR hPC hPM hS hl next
      · refine lv_tableIn (off := 741) (tgt := 773) hx hb d_Law_law_32 (by decide) (by decide) (by decide) (by decide) ?_
        exact xz_case_row hL C0 hK hE hDC hDM hAC hAM hdj q_row hi5 hR hPC hPM hS hl next
      · refine lv_tableIn (off := 764) (tgt := 796) hx hb d_Law_law_32 (by decide) (by decide) (by decide) (by decide) ?_
        exact xz_case_judge hL C0 hK hE hDC hDM hAC hAM hdj q_judge hi5 hR hPC hPM hS hl next
      · refine lv_tableIn (off := 777) (tgt := 809) hx hb d_Law_law_32 (by decide) (by decide) (by decide) (by decide) ?_
        exact xz_case_seeds hL C0 hK hE hDC hDM hAC hAM hdj q_seeds hi5 hR hPC hPM hS hl next
      · refine lv_tableIn (off := 810) (tgt := 842) hx hb d_Law_law_32 (by decide) (by decide) (by decide) (by decide) ?_
        exact xz_case_image hL C0 hK hE hDC hDM hAC hAM hdj q_image hi5 hR hPC hPM hS hl next
      · refine lv_tableIn (off := 823) (tgt := 855) hx hb d_Law_law_32 (by decide) (by decide) (by decide) (by decide) ?_
        exact xz_case_on hL C0 hK hE hDC hDM hAC hAM hdj q_on hi5 hR hPC hPM hS hl next
      · refine lv_tableIn (off := 836) (tgt := 868) hx hb d_Law_law_32 (by decide) (by decide) (by decide) (by decide) ?_
        exact xz_case_count hL C0 hK hE hDC hDM hAC hAM hdj q_count hi5 hR hPC hPM hS hl next
    · refine lv_tableOut (tgt := 891) hx hb d_Law_law_32 (by rw [ht]; omega) (by decide) ?_
      exact next sc sm H locs ls hR hPC hPM hS hl
