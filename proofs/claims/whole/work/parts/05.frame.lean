/-! THE FRAME: worlds, contracts of one form, starts and calls -/
def xw_C (ad : Nat → Nat) (cI cZ : ClassId) (s : XS) : va_W := [(ad 0, .inr (3, [.ref (ad 1), .ref (ad 8), .ref (ad 15), .int (s.1 0 3), .ref (ad 22), .ref (ad 28), .ref (ad 31), .int (s.1 0 7), .ref (ad 32)])), (ad 1, .inr (2, [.ref (ad 2), .ref (ad 3), .ref (ad 4), .ref (ad 5), .int (s.1 1 4), .ref (ad 6), .ref (ad 7), .int (s.1 1 7)])), (ad 2, .inl (cI, 6, .inl (s.1 2))), (ad 3, .inl (cI, 6, .inl (s.1 3))), (ad 4, .inl (cI, 6, .inl (s.1 4))), (ad 5, .inl (cI, 6, .inl (s.1 5))), (ad 6, .inl (cI, 8, .inl (s.1 6))), (ad 7, .inl (cI, 8, .inl (s.1 7))), (ad 8, .inr (2, [.ref (ad 9), .ref (ad 10), .ref (ad 11), .ref (ad 12), .int (s.1 8 4), .ref (ad 13), .ref (ad 14), .int (s.1 8 7)])), (ad 9, .inl (cI, 6, .inl (s.1 9))), (ad 10, .inl (cI, 6, .inl (s.1 10))), (ad 11, .inl (cI, 6, .inl (s.1 11))), (ad 12, .inl (cI, 6, .inl (s.1 12))), (ad 13, .inl (cI, 8, .inl (s.1 13))), (ad 14, .inl (cI, 8, .inl (s.1 14))), (ad 15, .inr (2, [.ref (ad 16), .ref (ad 17), .ref (ad 18), .ref (ad 19), .int (s.1 15 4), .ref (ad 20), .ref (ad 21), .int (s.1 15 7)])), (ad 16, .inl (cI, 6, .inl (s.1 16))), (ad 17, .inl (cI, 6, .inl (s.1 17))), (ad 18, .inl (cI, 6, .inl (s.1 18))), (ad 19, .inl (cI, 6, .inl (s.1 19))), (ad 20, .inl (cI, 8, .inl (s.1 20))), (ad 21, .inl (cI, 8, .inl (s.1 21))), (ad 22, .inr (1, [.ref (ad 1), .long (s.2 0), .long (s.2 1), .int (s.1 22 3), .ref (ad 23), .ref (ad 24), .ref (ad 25), .ref (ad 26), .ref (ad 27)])), (ad 23, .inl (cI, 15, .inl (s.1 23))), (ad 24, .inl (cI, 15, .inl (s.1 24))), (ad 25, .inl (cI, 15, .inl (s.1 25))), (ad 26, .inl (cI, 15, .inl (s.1 26))), (ad 27, .inl (cI, 15, .inl (s.1 27))), (ad 28, .inr (0, [.ref (ad 29), .int (s.1 28 1), .int (s.1 28 2), .int (s.1 28 3), .ref (ad 30)])), (ad 29, .inl (cI, 96, .inl (s.1 29))), (ad 30, .inl (cI, 3, .inl (s.1 30))), (ad 31, .inl (cI, 12, .inl (s.1 31))), (ad 32, .inl (cI, 7, .inl (s.1 32)))]
theorem xw_C_at_0 {ad : Nat → Nat} {cI cZ : ClassId} {s : XS} : (xw_C ad cI cZ s)[0]? = some (ad 0, .inr (3, [.ref (ad 1), .ref (ad 8), .ref (ad 15), .int (s.1 0 3), .ref (ad 22), .ref (ad 28), .ref (ad 31), .int (s.1 0 7), .ref (ad 32)])) := rfl
theorem xw_C_put_0_3 {ad : Nat → Nat} {cI cZ : ClassId} {s : XS} (v : Int32) : (xw_C ad cI cZ s).set 0 (ad 0, .inr (3, ([.ref (ad 1), .ref (ad 8), .ref (ad 15), .int (s.1 0 3), .ref (ad 22), .ref (ad 28), .ref (ad 31), .int (s.1 0 7), .ref (ad 32)] : List Value).set 3 (.int v))) = xw_C ad cI cZ (xs_I s 0 3 v) := rfl
theorem xw_C_put_0_7 {ad : Nat → Nat} {cI cZ : ClassId} {s : XS} (v : Int32) : (xw_C ad cI cZ s).set 0 (ad 0, .inr (3, ([.ref (ad 1), .ref (ad 8), .ref (ad 15), .int (s.1 0 3), .ref (ad 22), .ref (ad 28), .ref (ad 31), .int (s.1 0 7), .ref (ad 32)] : List Value).set 7 (.int v))) = xw_C ad cI cZ (xs_I s 0 7 v) := rfl
theorem xw_C_at_1 {ad : Nat → Nat} {cI cZ : ClassId} {s : XS} : (xw_C ad cI cZ s)[1]? = some (ad 1, .inr (2, [.ref (ad 2), .ref (ad 3), .ref (ad 4), .ref (ad 5), .int (s.1 1 4), .ref (ad 6), .ref (ad 7), .int (s.1 1 7)])) := rfl
theorem xw_C_put_1_4 {ad : Nat → Nat} {cI cZ : ClassId} {s : XS} (v : Int32) : (xw_C ad cI cZ s).set 1 (ad 1, .inr (2, ([.ref (ad 2), .ref (ad 3), .ref (ad 4), .ref (ad 5), .int (s.1 1 4), .ref (ad 6), .ref (ad 7), .int (s.1 1 7)] : List Value).set 4 (.int v))) = xw_C ad cI cZ (xs_I s 1 4 v) := rfl
theorem xw_C_put_1_7 {ad : Nat → Nat} {cI cZ : ClassId} {s : XS} (v : Int32) : (xw_C ad cI cZ s).set 1 (ad 1, .inr (2, ([.ref (ad 2), .ref (ad 3), .ref (ad 4), .ref (ad 5), .int (s.1 1 4), .ref (ad 6), .ref (ad 7), .int (s.1 1 7)] : List Value).set 7 (.int v))) = xw_C ad cI cZ (xs_I s 1 7 v) := rfl
theorem xw_C_at_2 {ad : Nat → Nat} {cI cZ : ClassId} {s : XS} : (xw_C ad cI cZ s)[2]? = some (ad 2, .inl (cI, 6, .inl (s.1 2))) := rfl
theorem xw_C_set_2 {ad : Nat → Nat} {cI cZ : ClassId} {s : XS} (f : Nat → Int32) : (xw_C ad cI cZ s).set 2 (ad 2, .inl (cI, 6, .inl f)) = xw_C ad cI cZ (xs_A s 2 f) := rfl
theorem xw_C_at_3 {ad : Nat → Nat} {cI cZ : ClassId} {s : XS} : (xw_C ad cI cZ s)[3]? = some (ad 3, .inl (cI, 6, .inl (s.1 3))) := rfl
theorem xw_C_set_3 {ad : Nat → Nat} {cI cZ : ClassId} {s : XS} (f : Nat → Int32) : (xw_C ad cI cZ s).set 3 (ad 3, .inl (cI, 6, .inl f)) = xw_C ad cI cZ (xs_A s 3 f) := rfl
theorem xw_C_at_4 {ad : Nat → Nat} {cI cZ : ClassId} {s : XS} : (xw_C ad cI cZ s)[4]? = some (ad 4, .inl (cI, 6, .inl (s.1 4))) := rfl
theorem xw_C_set_4 {ad : Nat → Nat} {cI cZ : ClassId} {s : XS} (f : Nat → Int32) : (xw_C ad cI cZ s).set 4 (ad 4, .inl (cI, 6, .inl f)) = xw_C ad cI cZ (xs_A s 4 f) := rfl
theorem xw_C_at_5 {ad : Nat → Nat} {cI cZ : ClassId} {s : XS} : (xw_C ad cI cZ s)[5]? = some (ad 5, .inl (cI, 6, .inl (s.1 5))) := rfl
theorem xw_C_set_5 {ad : Nat → Nat} {cI cZ : ClassId} {s : XS} (f : Nat → Int32) : (xw_C ad cI cZ s).set 5 (ad 5, .inl (cI, 6, .inl f)) = xw_C ad cI cZ (xs_A s 5 f) := rfl
theorem xw_C_at_6 {ad : Nat → Nat} {cI cZ : ClassId} {s : XS} : (xw_C ad cI cZ s)[6]? = some (ad 6, .inl (cI, 8, .inl (s.1 6))) := rfl
theorem xw_C_set_6 {ad : Nat → Nat} {cI cZ : ClassId} {s : XS} (f : Nat → Int32) : (xw_C ad cI cZ s).set 6 (ad 6, .inl (cI, 8, .inl f)) = xw_C ad cI cZ (xs_A s 6 f) := rfl
theorem xw_C_at_7 {ad : Nat → Nat} {cI cZ : ClassId} {s : XS} : (xw_C ad cI cZ s)[7]? = some (ad 7, .inl (cI, 8, .inl (s.1 7))) := rfl
theorem xw_C_set_7 {ad : Nat → Nat} {cI cZ : ClassId} {s : XS} (f : Nat → Int32) : (xw_C ad cI cZ s).set 7 (ad 7, .inl (cI, 8, .inl f)) = xw_C ad cI cZ (xs_A s 7 f) := rfl
theorem xw_C_at_8 {ad : Nat → Nat} {cI cZ : ClassId} {s : XS} : (xw_C ad cI cZ s)[8]? = some (ad 8, .inr (2, [.ref (ad 9), .ref (ad 10), .ref (ad 11), .ref (ad 12), .int (s.1 8 4), .ref (ad 13), .ref (ad 14), .int (s.1 8 7)])) := rfl
theorem xw_C_put_8_4 {ad : Nat → Nat} {cI cZ : ClassId} {s : XS} (v : Int32) : (xw_C ad cI cZ s).set 8 (ad 8, .inr (2, ([.ref (ad 9), .ref (ad 10), .ref (ad 11), .ref (ad 12), .int (s.1 8 4), .ref (ad 13), .ref (ad 14), .int (s.1 8 7)] : List Value).set 4 (.int v))) = xw_C ad cI cZ (xs_I s 8 4 v) := rfl
theorem xw_C_put_8_7 {ad : Nat → Nat} {cI cZ : ClassId} {s : XS} (v : Int32) : (xw_C ad cI cZ s).set 8 (ad 8, .inr (2, ([.ref (ad 9), .ref (ad 10), .ref (ad 11), .ref (ad 12), .int (s.1 8 4), .ref (ad 13), .ref (ad 14), .int (s.1 8 7)] : List Value).set 7 (.int v))) = xw_C ad cI cZ (xs_I s 8 7 v) := rfl
theorem xw_C_at_9 {ad : Nat → Nat} {cI cZ : ClassId} {s : XS} : (xw_C ad cI cZ s)[9]? = some (ad 9, .inl (cI, 6, .inl (s.1 9))) := rfl
theorem xw_C_set_9 {ad : Nat → Nat} {cI cZ : ClassId} {s : XS} (f : Nat → Int32) : (xw_C ad cI cZ s).set 9 (ad 9, .inl (cI, 6, .inl f)) = xw_C ad cI cZ (xs_A s 9 f) := rfl
theorem xw_C_at_10 {ad : Nat → Nat} {cI cZ : ClassId} {s : XS} : (xw_C ad cI cZ s)[10]? = some (ad 10, .inl (cI, 6, .inl (s.1 10))) := rfl
theorem xw_C_set_10 {ad : Nat → Nat} {cI cZ : ClassId} {s : XS} (f : Nat → Int32) : (xw_C ad cI cZ s).set 10 (ad 10, .inl (cI, 6, .inl f)) = xw_C ad cI cZ (xs_A s 10 f) := rfl
theorem xw_C_at_11 {ad : Nat → Nat} {cI cZ : ClassId} {s : XS} : (xw_C ad cI cZ s)[11]? = some (ad 11, .inl (cI, 6, .inl (s.1 11))) := rfl
theorem xw_C_set_11 {ad : Nat → Nat} {cI cZ : ClassId} {s : XS} (f : Nat → Int32) : (xw_C ad cI cZ s).set 11 (ad 11, .inl (cI, 6, .inl f)) = xw_C ad cI cZ (xs_A s 11 f) := rfl
theorem xw_C_at_12 {ad : Nat → Nat} {cI cZ : ClassId} {s : XS} : (xw_C ad cI cZ s)[12]? = some (ad 12, .inl (cI, 6, .inl (s.1 12))) := rfl
theorem xw_C_set_12 {ad : Nat → Nat} {cI cZ : ClassId} {s : XS} (f : Nat → Int32) : (xw_C ad cI cZ s).set 12 (ad 12, .inl (cI, 6, .inl f)) = xw_C ad cI cZ (xs_A s 12 f) := rfl
theorem xw_C_at_13 {ad : Nat → Nat} {cI cZ : ClassId} {s : XS} : (xw_C ad cI cZ s)[13]? = some (ad 13, .inl (cI, 8, .inl (s.1 13))) := rfl
theorem xw_C_set_13 {ad : Nat → Nat} {cI cZ : ClassId} {s : XS} (f : Nat → Int32) : (xw_C ad cI cZ s).set 13 (ad 13, .inl (cI, 8, .inl f)) = xw_C ad cI cZ (xs_A s 13 f) := rfl
theorem xw_C_at_14 {ad : Nat → Nat} {cI cZ : ClassId} {s : XS} : (xw_C ad cI cZ s)[14]? = some (ad 14, .inl (cI, 8, .inl (s.1 14))) := rfl
theorem xw_C_set_14 {ad : Nat → Nat} {cI cZ : ClassId} {s : XS} (f : Nat → Int32) : (xw_C ad cI cZ s).set 14 (ad 14, .inl (cI, 8, .inl f)) = xw_C ad cI cZ (xs_A s 14 f) := rfl
theorem xw_C_at_15 {ad : Nat → Nat} {cI cZ : ClassId} {s : XS} : (xw_C ad cI cZ s)[15]? = some (ad 15, .inr (2, [.ref (ad 16), .ref (ad 17), .ref (ad 18), .ref (ad 19), .int (s.1 15 4), .ref (ad 20), .ref (ad 21), .int (s.1 15 7)])) := rfl
theorem xw_C_put_15_4 {ad : Nat → Nat} {cI cZ : ClassId} {s : XS} (v : Int32) : (xw_C ad cI cZ s).set 15 (ad 15, .inr (2, ([.ref (ad 16), .ref (ad 17), .ref (ad 18), .ref (ad 19), .int (s.1 15 4), .ref (ad 20), .ref (ad 21), .int (s.1 15 7)] : List Value).set 4 (.int v))) = xw_C ad cI cZ (xs_I s 15 4 v) := rfl
theorem xw_C_put_15_7 {ad : Nat → Nat} {cI cZ : ClassId} {s : XS} (v : Int32) : (xw_C ad cI cZ s).set 15 (ad 15, .inr (2, ([.ref (ad 16), .ref (ad 17), .ref (ad 18), .ref (ad 19), .int (s.1 15 4), .ref (ad 20), .ref (ad 21), .int (s.1 15 7)] : List Value).set 7 (.int v))) = xw_C ad cI cZ (xs_I s 15 7 v) := rfl
theorem xw_C_at_16 {ad : Nat → Nat} {cI cZ : ClassId} {s : XS} : (xw_C ad cI cZ s)[16]? = some (ad 16, .inl (cI, 6, .inl (s.1 16))) := rfl
theorem xw_C_set_16 {ad : Nat → Nat} {cI cZ : ClassId} {s : XS} (f : Nat → Int32) : (xw_C ad cI cZ s).set 16 (ad 16, .inl (cI, 6, .inl f)) = xw_C ad cI cZ (xs_A s 16 f) := rfl
theorem xw_C_at_17 {ad : Nat → Nat} {cI cZ : ClassId} {s : XS} : (xw_C ad cI cZ s)[17]? = some (ad 17, .inl (cI, 6, .inl (s.1 17))) := rfl
theorem xw_C_set_17 {ad : Nat → Nat} {cI cZ : ClassId} {s : XS} (f : Nat → Int32) : (xw_C ad cI cZ s).set 17 (ad 17, .inl (cI, 6, .inl f)) = xw_C ad cI cZ (xs_A s 17 f) := rfl
theorem xw_C_at_18 {ad : Nat → Nat} {cI cZ : ClassId} {s : XS} : (xw_C ad cI cZ s)[18]? = some (ad 18, .inl (cI, 6, .inl (s.1 18))) := rfl
theorem xw_C_set_18 {ad : Nat → Nat} {cI cZ : ClassId} {s : XS} (f : Nat → Int32) : (xw_C ad cI cZ s).set 18 (ad 18, .inl (cI, 6, .inl f)) = xw_C ad cI cZ (xs_A s 18 f) := rfl
theorem xw_C_at_19 {ad : Nat → Nat} {cI cZ : ClassId} {s : XS} : (xw_C ad cI cZ s)[19]? = some (ad 19, .inl (cI, 6, .inl (s.1 19))) := rfl
theorem xw_C_set_19 {ad : Nat → Nat} {cI cZ : ClassId} {s : XS} (f : Nat → Int32) : (xw_C ad cI cZ s).set 19 (ad 19, .inl (cI, 6, .inl f)) = xw_C ad cI cZ (xs_A s 19 f) := rfl
theorem xw_C_at_20 {ad : Nat → Nat} {cI cZ : ClassId} {s : XS} : (xw_C ad cI cZ s)[20]? = some (ad 20, .inl (cI, 8, .inl (s.1 20))) := rfl
theorem xw_C_set_20 {ad : Nat → Nat} {cI cZ : ClassId} {s : XS} (f : Nat → Int32) : (xw_C ad cI cZ s).set 20 (ad 20, .inl (cI, 8, .inl f)) = xw_C ad cI cZ (xs_A s 20 f) := rfl
theorem xw_C_at_21 {ad : Nat → Nat} {cI cZ : ClassId} {s : XS} : (xw_C ad cI cZ s)[21]? = some (ad 21, .inl (cI, 8, .inl (s.1 21))) := rfl
theorem xw_C_set_21 {ad : Nat → Nat} {cI cZ : ClassId} {s : XS} (f : Nat → Int32) : (xw_C ad cI cZ s).set 21 (ad 21, .inl (cI, 8, .inl f)) = xw_C ad cI cZ (xs_A s 21 f) := rfl
theorem xw_C_at_22 {ad : Nat → Nat} {cI cZ : ClassId} {s : XS} : (xw_C ad cI cZ s)[22]? = some (ad 22, .inr (1, [.ref (ad 1), .long (s.2 0), .long (s.2 1), .int (s.1 22 3), .ref (ad 23), .ref (ad 24), .ref (ad 25), .ref (ad 26), .ref (ad 27)])) := rfl
theorem xw_C_put_22_1 {ad : Nat → Nat} {cI cZ : ClassId} {s : XS} (v : Int64) : (xw_C ad cI cZ s).set 22 (ad 22, .inr (1, ([.ref (ad 1), .long (s.2 0), .long (s.2 1), .int (s.1 22 3), .ref (ad 23), .ref (ad 24), .ref (ad 25), .ref (ad 26), .ref (ad 27)] : List Value).set 1 (.long v))) = xw_C ad cI cZ (xs_L s 0 v) := rfl
theorem xw_C_put_22_2 {ad : Nat → Nat} {cI cZ : ClassId} {s : XS} (v : Int64) : (xw_C ad cI cZ s).set 22 (ad 22, .inr (1, ([.ref (ad 1), .long (s.2 0), .long (s.2 1), .int (s.1 22 3), .ref (ad 23), .ref (ad 24), .ref (ad 25), .ref (ad 26), .ref (ad 27)] : List Value).set 2 (.long v))) = xw_C ad cI cZ (xs_L s 1 v) := rfl
theorem xw_C_put_22_3 {ad : Nat → Nat} {cI cZ : ClassId} {s : XS} (v : Int32) : (xw_C ad cI cZ s).set 22 (ad 22, .inr (1, ([.ref (ad 1), .long (s.2 0), .long (s.2 1), .int (s.1 22 3), .ref (ad 23), .ref (ad 24), .ref (ad 25), .ref (ad 26), .ref (ad 27)] : List Value).set 3 (.int v))) = xw_C ad cI cZ (xs_I s 22 3 v) := rfl
theorem xw_C_at_23 {ad : Nat → Nat} {cI cZ : ClassId} {s : XS} : (xw_C ad cI cZ s)[23]? = some (ad 23, .inl (cI, 15, .inl (s.1 23))) := rfl
theorem xw_C_set_23 {ad : Nat → Nat} {cI cZ : ClassId} {s : XS} (f : Nat → Int32) : (xw_C ad cI cZ s).set 23 (ad 23, .inl (cI, 15, .inl f)) = xw_C ad cI cZ (xs_A s 23 f) := rfl
theorem xw_C_at_24 {ad : Nat → Nat} {cI cZ : ClassId} {s : XS} : (xw_C ad cI cZ s)[24]? = some (ad 24, .inl (cI, 15, .inl (s.1 24))) := rfl
theorem xw_C_set_24 {ad : Nat → Nat} {cI cZ : ClassId} {s : XS} (f : Nat → Int32) : (xw_C ad cI cZ s).set 24 (ad 24, .inl (cI, 15, .inl f)) = xw_C ad cI cZ (xs_A s 24 f) := rfl
theorem xw_C_at_25 {ad : Nat → Nat} {cI cZ : ClassId} {s : XS} : (xw_C ad cI cZ s)[25]? = some (ad 25, .inl (cI, 15, .inl (s.1 25))) := rfl
theorem xw_C_set_25 {ad : Nat → Nat} {cI cZ : ClassId} {s : XS} (f : Nat → Int32) : (xw_C ad cI cZ s).set 25 (ad 25, .inl (cI, 15, .inl f)) = xw_C ad cI cZ (xs_A s 25 f) := rfl
theorem xw_C_at_26 {ad : Nat → Nat} {cI cZ : ClassId} {s : XS} : (xw_C ad cI cZ s)[26]? = some (ad 26, .inl (cI, 15, .inl (s.1 26))) := rfl
theorem xw_C_set_26 {ad : Nat → Nat} {cI cZ : ClassId} {s : XS} (f : Nat → Int32) : (xw_C ad cI cZ s).set 26 (ad 26, .inl (cI, 15, .inl f)) = xw_C ad cI cZ (xs_A s 26 f) := rfl
theorem xw_C_at_27 {ad : Nat → Nat} {cI cZ : ClassId} {s : XS} : (xw_C ad cI cZ s)[27]? = some (ad 27, .inl (cI, 15, .inl (s.1 27))) := rfl
theorem xw_C_set_27 {ad : Nat → Nat} {cI cZ : ClassId} {s : XS} (f : Nat → Int32) : (xw_C ad cI cZ s).set 27 (ad 27, .inl (cI, 15, .inl f)) = xw_C ad cI cZ (xs_A s 27 f) := rfl
theorem xw_C_at_28 {ad : Nat → Nat} {cI cZ : ClassId} {s : XS} : (xw_C ad cI cZ s)[28]? = some (ad 28, .inr (0, [.ref (ad 29), .int (s.1 28 1), .int (s.1 28 2), .int (s.1 28 3), .ref (ad 30)])) := rfl
theorem xw_C_put_28_1 {ad : Nat → Nat} {cI cZ : ClassId} {s : XS} (v : Int32) : (xw_C ad cI cZ s).set 28 (ad 28, .inr (0, ([.ref (ad 29), .int (s.1 28 1), .int (s.1 28 2), .int (s.1 28 3), .ref (ad 30)] : List Value).set 1 (.int v))) = xw_C ad cI cZ (xs_I s 28 1 v) := rfl
theorem xw_C_put_28_2 {ad : Nat → Nat} {cI cZ : ClassId} {s : XS} (v : Int32) : (xw_C ad cI cZ s).set 28 (ad 28, .inr (0, ([.ref (ad 29), .int (s.1 28 1), .int (s.1 28 2), .int (s.1 28 3), .ref (ad 30)] : List Value).set 2 (.int v))) = xw_C ad cI cZ (xs_I s 28 2 v) := rfl
theorem xw_C_put_28_3 {ad : Nat → Nat} {cI cZ : ClassId} {s : XS} (v : Int32) : (xw_C ad cI cZ s).set 28 (ad 28, .inr (0, ([.ref (ad 29), .int (s.1 28 1), .int (s.1 28 2), .int (s.1 28 3), .ref (ad 30)] : List Value).set 3 (.int v))) = xw_C ad cI cZ (xs_I s 28 3 v) := rfl
theorem xw_C_at_29 {ad : Nat → Nat} {cI cZ : ClassId} {s : XS} : (xw_C ad cI cZ s)[29]? = some (ad 29, .inl (cI, 96, .inl (s.1 29))) := rfl
theorem xw_C_set_29 {ad : Nat → Nat} {cI cZ : ClassId} {s : XS} (f : Nat → Int32) : (xw_C ad cI cZ s).set 29 (ad 29, .inl (cI, 96, .inl f)) = xw_C ad cI cZ (xs_A s 29 f) := rfl
theorem xw_C_at_30 {ad : Nat → Nat} {cI cZ : ClassId} {s : XS} : (xw_C ad cI cZ s)[30]? = some (ad 30, .inl (cI, 3, .inl (s.1 30))) := rfl
theorem xw_C_set_30 {ad : Nat → Nat} {cI cZ : ClassId} {s : XS} (f : Nat → Int32) : (xw_C ad cI cZ s).set 30 (ad 30, .inl (cI, 3, .inl f)) = xw_C ad cI cZ (xs_A s 30 f) := rfl
theorem xw_C_at_31 {ad : Nat → Nat} {cI cZ : ClassId} {s : XS} : (xw_C ad cI cZ s)[31]? = some (ad 31, .inl (cI, 12, .inl (s.1 31))) := rfl
theorem xw_C_set_31 {ad : Nat → Nat} {cI cZ : ClassId} {s : XS} (f : Nat → Int32) : (xw_C ad cI cZ s).set 31 (ad 31, .inl (cI, 12, .inl f)) = xw_C ad cI cZ (xs_A s 31 f) := rfl
theorem xw_C_at_32 {ad : Nat → Nat} {cI cZ : ClassId} {s : XS} : (xw_C ad cI cZ s)[32]? = some (ad 32, .inl (cI, 7, .inl (s.1 32))) := rfl
theorem xw_C_set_32 {ad : Nat → Nat} {cI cZ : ClassId} {s : XS} (f : Nat → Int32) : (xw_C ad cI cZ s).set 32 (ad 32, .inl (cI, 7, .inl f)) = xw_C ad cI cZ (xs_A s 32 f) := rfl
theorem xw_C_ads {ad : Nat → Nat} {cI cZ : ClassId} {s : XS} : (xw_C ad cI cZ s).map (fun q => q.1) = [ad 0, ad 1, ad 2, ad 3, ad 4, ad 5, ad 6, ad 7, ad 8, ad 9, ad 10, ad 11, ad 12, ad 13, ad 14, ad 15, ad 16, ad 17, ad 18, ad 19, ad 20, ad 21, ad 22, ad 23, ad 24, ad 25, ad 26, ad 27, ad 28, ad 29, ad 30, ad 31, ad 32] := rfl
def xw_M (ad : Nat → Nat) (cI cZ : ClassId) (s : XS) : va_W := [(ad 0, .inr (4, [.int (s.1 0 0), .ref (ad 1), .ref (ad 2), .ref (ad 3), .ref (ad 4), .int (s.1 0 5), .ref (ad 6), .ref (ad 7), .int (s.1 0 8), .ref (ad 9), .int (s.1 0 10), .ref (ad 11), .int (s.1 0 12), .ref (ad 13), .ref (ad 14), .int (s.1 0 15), .ref (ad 16), .ref (ad 17), .ref (ad 18), .ref (ad 19), .int (s.1 0 20), .int (s.1 0 21), .int (s.1 0 22)])), (ad 1, .inl (cI, 7, .inl (s.1 1))), (ad 2, .inl (cI, 7, .inl (s.1 2))), (ad 3, .inl (cI, 7, .inl (s.1 3))), (ad 4, .inl (cI, 7, .inl (s.1 4))), (ad 6, .inl (cI, 8, .inl (s.1 6))), (ad 7, .inl (cI, 8, .inl (s.1 7))), (ad 9, .inl (cI, 96, .inl (s.1 9))), (ad 11, .inl (cI, 3, .inl (s.1 11))), (ad 13, .inl (cI, 12, .inl (s.1 13))), (ad 14, .inl (cI, 7, .inl (s.1 14))), (ad 16, .inl (cI, 46, .inl (s.1 16))), (ad 17, .inl (cI, 46, .inl (s.1 17))), (ad 18, .inl (cI, 128, .inl (s.1 18))), (ad 19, .inl (cZ, 128, .inl (s.1 19)))]
theorem xw_M_at_0 {ad : Nat → Nat} {cI cZ : ClassId} {s : XS} : (xw_M ad cI cZ s)[0]? = some (ad 0, .inr (4, [.int (s.1 0 0), .ref (ad 1), .ref (ad 2), .ref (ad 3), .ref (ad 4), .int (s.1 0 5), .ref (ad 6), .ref (ad 7), .int (s.1 0 8), .ref (ad 9), .int (s.1 0 10), .ref (ad 11), .int (s.1 0 12), .ref (ad 13), .ref (ad 14), .int (s.1 0 15), .ref (ad 16), .ref (ad 17), .ref (ad 18), .ref (ad 19), .int (s.1 0 20), .int (s.1 0 21), .int (s.1 0 22)])) := rfl
theorem xw_M_put_0_0 {ad : Nat → Nat} {cI cZ : ClassId} {s : XS} (v : Int32) : (xw_M ad cI cZ s).set 0 (ad 0, .inr (4, ([.int (s.1 0 0), .ref (ad 1), .ref (ad 2), .ref (ad 3), .ref (ad 4), .int (s.1 0 5), .ref (ad 6), .ref (ad 7), .int (s.1 0 8), .ref (ad 9), .int (s.1 0 10), .ref (ad 11), .int (s.1 0 12), .ref (ad 13), .ref (ad 14), .int (s.1 0 15), .ref (ad 16), .ref (ad 17), .ref (ad 18), .ref (ad 19), .int (s.1 0 20), .int (s.1 0 21), .int (s.1 0 22)] : List Value).set 0 (.int v))) = xw_M ad cI cZ (xs_I s 0 0 v) := rfl
theorem xw_M_put_0_5 {ad : Nat → Nat} {cI cZ : ClassId} {s : XS} (v : Int32) : (xw_M ad cI cZ s).set 0 (ad 0, .inr (4, ([.int (s.1 0 0), .ref (ad 1), .ref (ad 2), .ref (ad 3), .ref (ad 4), .int (s.1 0 5), .ref (ad 6), .ref (ad 7), .int (s.1 0 8), .ref (ad 9), .int (s.1 0 10), .ref (ad 11), .int (s.1 0 12), .ref (ad 13), .ref (ad 14), .int (s.1 0 15), .ref (ad 16), .ref (ad 17), .ref (ad 18), .ref (ad 19), .int (s.1 0 20), .int (s.1 0 21), .int (s.1 0 22)] : List Value).set 5 (.int v))) = xw_M ad cI cZ (xs_I s 0 5 v) := rfl
theorem xw_M_put_0_8 {ad : Nat → Nat} {cI cZ : ClassId} {s : XS} (v : Int32) : (xw_M ad cI cZ s).set 0 (ad 0, .inr (4, ([.int (s.1 0 0), .ref (ad 1), .ref (ad 2), .ref (ad 3), .ref (ad 4), .int (s.1 0 5), .ref (ad 6), .ref (ad 7), .int (s.1 0 8), .ref (ad 9), .int (s.1 0 10), .ref (ad 11), .int (s.1 0 12), .ref (ad 13), .ref (ad 14), .int (s.1 0 15), .ref (ad 16), .ref (ad 17), .ref (ad 18), .ref (ad 19), .int (s.1 0 20), .int (s.1 0 21), .int (s.1 0 22)] : List Value).set 8 (.int v))) = xw_M ad cI cZ (xs_I s 0 8 v) := rfl
theorem xw_M_put_0_10 {ad : Nat → Nat} {cI cZ : ClassId} {s : XS} (v : Int32) : (xw_M ad cI cZ s).set 0 (ad 0, .inr (4, ([.int (s.1 0 0), .ref (ad 1), .ref (ad 2), .ref (ad 3), .ref (ad 4), .int (s.1 0 5), .ref (ad 6), .ref (ad 7), .int (s.1 0 8), .ref (ad 9), .int (s.1 0 10), .ref (ad 11), .int (s.1 0 12), .ref (ad 13), .ref (ad 14), .int (s.1 0 15), .ref (ad 16), .ref (ad 17), .ref (ad 18), .ref (ad 19), .int (s.1 0 20), .int (s.1 0 21), .int (s.1 0 22)] : List Value).set 10 (.int v))) = xw_M ad cI cZ (xs_I s 0 10 v) := rfl
theorem xw_M_put_0_12 {ad : Nat → Nat} {cI cZ : ClassId} {s : XS} (v : Int32) : (xw_M ad cI cZ s).set 0 (ad 0, .inr (4, ([.int (s.1 0 0), .ref (ad 1), .ref (ad 2), .ref (ad 3), .ref (ad 4), .int (s.1 0 5), .ref (ad 6), .ref (ad 7), .int (s.1 0 8), .ref (ad 9), .int (s.1 0 10), .ref (ad 11), .int (s.1 0 12), .ref (ad 13), .ref (ad 14), .int (s.1 0 15), .ref (ad 16), .ref (ad 17), .ref (ad 18), .ref (ad 19), .int (s.1 0 20), .int (s.1 0 21), .int (s.1 0 22)] : List Value).set 12 (.int v))) = xw_M ad cI cZ (xs_I s 0 12 v) := rfl
theorem xw_M_put_0_15 {ad : Nat → Nat} {cI cZ : ClassId} {s : XS} (v : Int32) : (xw_M ad cI cZ s).set 0 (ad 0, .inr (4, ([.int (s.1 0 0), .ref (ad 1), .ref (ad 2), .ref (ad 3), .ref (ad 4), .int (s.1 0 5), .ref (ad 6), .ref (ad 7), .int (s.1 0 8), .ref (ad 9), .int (s.1 0 10), .ref (ad 11), .int (s.1 0 12), .ref (ad 13), .ref (ad 14), .int (s.1 0 15), .ref (ad 16), .ref (ad 17), .ref (ad 18), .ref (ad 19), .int (s.1 0 20), .int (s.1 0 21), .int (s.1 0 22)] : List Value).set 15 (.int v))) = xw_M ad cI cZ (xs_I s 0 15 v) := rfl
theorem xw_M_put_0_20 {ad : Nat → Nat} {cI cZ : ClassId} {s : XS} (v : Int32) : (xw_M ad cI cZ s).set 0 (ad 0, .inr (4, ([.int (s.1 0 0), .ref (ad 1), .ref (ad 2), .ref (ad 3), .ref (ad 4), .int (s.1 0 5), .ref (ad 6), .ref (ad 7), .int (s.1 0 8), .ref (ad 9), .int (s.1 0 10), .ref (ad 11), .int (s.1 0 12), .ref (ad 13), .ref (ad 14), .int (s.1 0 15), .ref (ad 16), .ref (ad 17), .ref (ad 18), .ref (ad 19), .int (s.1 0 20), .int (s.1 0 21), .int (s.1 0 22)] : List Value).set 20 (.int v))) = xw_M ad cI cZ (xs_I s 0 20 v) := rfl
theorem xw_M_put_0_21 {ad : Nat → Nat} {cI cZ : ClassId} {s : XS} (v : Int32) : (xw_M ad cI cZ s).set 0 (ad 0, .inr (4, ([.int (s.1 0 0), .ref (ad 1), .ref (ad 2), .ref (ad 3), .ref (ad 4), .int (s.1 0 5), .ref (ad 6), .ref (ad 7), .int (s.1 0 8), .ref (ad 9), .int (s.1 0 10), .ref (ad 11), .int (s.1 0 12), .ref (ad 13), .ref (ad 14), .int (s.1 0 15), .ref (ad 16), .ref (ad 17), .ref (ad 18), .ref (ad 19), .int (s.1 0 20), .int (s.1 0 21), .int (s.1 0 22)] : List Value).set 21 (.int v))) = xw_M ad cI cZ (xs_I s 0 21 v) := rfl
theorem xw_M_put_0_22 {ad : Nat → Nat} {cI cZ : ClassId} {s : XS} (v : Int32) : (xw_M ad cI cZ s).set 0 (ad 0, .inr (4, ([.int (s.1 0 0), .ref (ad 1), .ref (ad 2), .ref (ad 3), .ref (ad 4), .int (s.1 0 5), .ref (ad 6), .ref (ad 7), .int (s.1 0 8), .ref (ad 9), .int (s.1 0 10), .ref (ad 11), .int (s.1 0 12), .ref (ad 13), .ref (ad 14), .int (s.1 0 15), .ref (ad 16), .ref (ad 17), .ref (ad 18), .ref (ad 19), .int (s.1 0 20), .int (s.1 0 21), .int (s.1 0 22)] : List Value).set 22 (.int v))) = xw_M ad cI cZ (xs_I s 0 22 v) := rfl
theorem xw_M_at_1 {ad : Nat → Nat} {cI cZ : ClassId} {s : XS} : (xw_M ad cI cZ s)[1]? = some (ad 1, .inl (cI, 7, .inl (s.1 1))) := rfl
theorem xw_M_set_1 {ad : Nat → Nat} {cI cZ : ClassId} {s : XS} (f : Nat → Int32) : (xw_M ad cI cZ s).set 1 (ad 1, .inl (cI, 7, .inl f)) = xw_M ad cI cZ (xs_A s 1 f) := rfl
theorem xw_M_at_2 {ad : Nat → Nat} {cI cZ : ClassId} {s : XS} : (xw_M ad cI cZ s)[2]? = some (ad 2, .inl (cI, 7, .inl (s.1 2))) := rfl
theorem xw_M_set_2 {ad : Nat → Nat} {cI cZ : ClassId} {s : XS} (f : Nat → Int32) : (xw_M ad cI cZ s).set 2 (ad 2, .inl (cI, 7, .inl f)) = xw_M ad cI cZ (xs_A s 2 f) := rfl
theorem xw_M_at_3 {ad : Nat → Nat} {cI cZ : ClassId} {s : XS} : (xw_M ad cI cZ s)[3]? = some (ad 3, .inl (cI, 7, .inl (s.1 3))) := rfl
theorem xw_M_set_3 {ad : Nat → Nat} {cI cZ : ClassId} {s : XS} (f : Nat → Int32) : (xw_M ad cI cZ s).set 3 (ad 3, .inl (cI, 7, .inl f)) = xw_M ad cI cZ (xs_A s 3 f) := rfl
theorem xw_M_at_4 {ad : Nat → Nat} {cI cZ : ClassId} {s : XS} : (xw_M ad cI cZ s)[4]? = some (ad 4, .inl (cI, 7, .inl (s.1 4))) := rfl
theorem xw_M_set_4 {ad : Nat → Nat} {cI cZ : ClassId} {s : XS} (f : Nat → Int32) : (xw_M ad cI cZ s).set 4 (ad 4, .inl (cI, 7, .inl f)) = xw_M ad cI cZ (xs_A s 4 f) := rfl
theorem xw_M_at_6 {ad : Nat → Nat} {cI cZ : ClassId} {s : XS} : (xw_M ad cI cZ s)[5]? = some (ad 6, .inl (cI, 8, .inl (s.1 6))) := rfl
theorem xw_M_set_6 {ad : Nat → Nat} {cI cZ : ClassId} {s : XS} (f : Nat → Int32) : (xw_M ad cI cZ s).set 5 (ad 6, .inl (cI, 8, .inl f)) = xw_M ad cI cZ (xs_A s 6 f) := rfl
theorem xw_M_at_7 {ad : Nat → Nat} {cI cZ : ClassId} {s : XS} : (xw_M ad cI cZ s)[6]? = some (ad 7, .inl (cI, 8, .inl (s.1 7))) := rfl
theorem xw_M_set_7 {ad : Nat → Nat} {cI cZ : ClassId} {s : XS} (f : Nat → Int32) : (xw_M ad cI cZ s).set 6 (ad 7, .inl (cI, 8, .inl f)) = xw_M ad cI cZ (xs_A s 7 f) := rfl
theorem xw_M_at_9 {ad : Nat → Nat} {cI cZ : ClassId} {s : XS} : (xw_M ad cI cZ s)[7]? = some (ad 9, .inl (cI, 96, .inl (s.1 9))) := rfl
theorem xw_M_set_9 {ad : Nat → Nat} {cI cZ : ClassId} {s : XS} (f : Nat → Int32) : (xw_M ad cI cZ s).set 7 (ad 9, .inl (cI, 96, .inl f)) = xw_M ad cI cZ (xs_A s 9 f) := rfl
theorem xw_M_at_11 {ad : Nat → Nat} {cI cZ : ClassId} {s : XS} : (xw_M ad cI cZ s)[8]? = some (ad 11, .inl (cI, 3, .inl (s.1 11))) := rfl
theorem xw_M_set_11 {ad : Nat → Nat} {cI cZ : ClassId} {s : XS} (f : Nat → Int32) : (xw_M ad cI cZ s).set 8 (ad 11, .inl (cI, 3, .inl f)) = xw_M ad cI cZ (xs_A s 11 f) := rfl
theorem xw_M_at_13 {ad : Nat → Nat} {cI cZ : ClassId} {s : XS} : (xw_M ad cI cZ s)[9]? = some (ad 13, .inl (cI, 12, .inl (s.1 13))) := rfl
theorem xw_M_set_13 {ad : Nat → Nat} {cI cZ : ClassId} {s : XS} (f : Nat → Int32) : (xw_M ad cI cZ s).set 9 (ad 13, .inl (cI, 12, .inl f)) = xw_M ad cI cZ (xs_A s 13 f) := rfl
theorem xw_M_at_14 {ad : Nat → Nat} {cI cZ : ClassId} {s : XS} : (xw_M ad cI cZ s)[10]? = some (ad 14, .inl (cI, 7, .inl (s.1 14))) := rfl
theorem xw_M_set_14 {ad : Nat → Nat} {cI cZ : ClassId} {s : XS} (f : Nat → Int32) : (xw_M ad cI cZ s).set 10 (ad 14, .inl (cI, 7, .inl f)) = xw_M ad cI cZ (xs_A s 14 f) := rfl
theorem xw_M_at_16 {ad : Nat → Nat} {cI cZ : ClassId} {s : XS} : (xw_M ad cI cZ s)[11]? = some (ad 16, .inl (cI, 46, .inl (s.1 16))) := rfl
theorem xw_M_set_16 {ad : Nat → Nat} {cI cZ : ClassId} {s : XS} (f : Nat → Int32) : (xw_M ad cI cZ s).set 11 (ad 16, .inl (cI, 46, .inl f)) = xw_M ad cI cZ (xs_A s 16 f) := rfl
theorem xw_M_at_17 {ad : Nat → Nat} {cI cZ : ClassId} {s : XS} : (xw_M ad cI cZ s)[12]? = some (ad 17, .inl (cI, 46, .inl (s.1 17))) := rfl
theorem xw_M_set_17 {ad : Nat → Nat} {cI cZ : ClassId} {s : XS} (f : Nat → Int32) : (xw_M ad cI cZ s).set 12 (ad 17, .inl (cI, 46, .inl f)) = xw_M ad cI cZ (xs_A s 17 f) := rfl
theorem xw_M_at_18 {ad : Nat → Nat} {cI cZ : ClassId} {s : XS} : (xw_M ad cI cZ s)[13]? = some (ad 18, .inl (cI, 128, .inl (s.1 18))) := rfl
theorem xw_M_set_18 {ad : Nat → Nat} {cI cZ : ClassId} {s : XS} (f : Nat → Int32) : (xw_M ad cI cZ s).set 13 (ad 18, .inl (cI, 128, .inl f)) = xw_M ad cI cZ (xs_A s 18 f) := rfl
theorem xw_M_at_19 {ad : Nat → Nat} {cI cZ : ClassId} {s : XS} : (xw_M ad cI cZ s)[14]? = some (ad 19, .inl (cZ, 128, .inl (s.1 19))) := rfl
theorem xw_M_set_19 {ad : Nat → Nat} {cI cZ : ClassId} {s : XS} (f : Nat → Int32) : (xw_M ad cI cZ s).set 14 (ad 19, .inl (cZ, 128, .inl f)) = xw_M ad cI cZ (xs_A s 19 f) := rfl
theorem xw_M_ads {ad : Nat → Nat} {cI cZ : ClassId} {s : XS} : (xw_M ad cI cZ s).map (fun q => q.1) = [ad 0, ad 1, ad 2, ad 3, ad 4, ad 6, ad 7, ad 9, ad 11, ad 13, ad 14, ad 16, ad 17, ad 18, ad 19] := rfl
abbrev xk_tys (cI cZ : ClassId) : List (ClassId × FieldType) := [(cI, .int), (cZ, .boolean)]
def xk_ws (y : MethodName) (b : ByteArray) (n : Nat) (ret : Option FieldType) : List Cond := .code y b n ret :: gd_tbl
def xk_rm (fr lo : Nat) : Room := { frames := fr, cells := 0, slots := 0, locals := lo }
/-- what a method needs to know of the JVM's own: String is compact, "pldgtn" stands where it stands -/
def xk_E (A : Nat → Prop) (adK adV : Nat → Nat) : State → Prop := fun U => va_Z "java/lang/String" "COMPACT_STRINGS" "Z" (.int 1) A U U.heap ∧ vk_S 1 [6] [[112, 108, 100, 103, 116, 110]] adK adV A U U.heap ∧ vk_R "CrossesAllOld$Letters" 63 "pldgtn" (adK 0) U ∧ vk_R "CrossesAllOldModel" 87 "pldgtn" (adK 0) U ∧ va_Nw (.methodLinkNest R_Pla 41 y_All_has "CrossesAllOld") U
def xk_pre (D : va_G) (cI cZ : ClassId) (A : Nat → Prop) (adK adV : Nat → Nat) (w : XS → va_W) (st : XS) : State → Prop := fun U => va_P D classes (w st) U.heap ∧ va_K D classes (xk_tys cI cZ) U ∧ xk_E A adK adV U
def K_I (l : Launch) (D : va_G) (cI cZ : ClassId) (A : Nat → Prop) (adK adV : Nat → Nat) (w : XS → va_W) (y : MethodName) (b : ByteArray) (n : Nat) (ret : Option FieldType) (fr lo : Nat) (av : List Value) (st : XS) (r9 : Int32) (st9 : XS) : Prop :=
  Met l y (xk_ws y b n ret) (xk_rm fr lo) (va_Pc av (xk_pre D cI cZ A adK adV w st)) (va_Qi (fun (r : Int32) (u : XS) => r = r9 ∧ u = st9) (fun u t => va_P D classes (w u) t.heap) A) 0 0 A
def K_L (l : Launch) (D : va_G) (cI cZ : ClassId) (A : Nat → Prop) (adK adV : Nat → Nat) (w : XS → va_W) (y : MethodName) (b : ByteArray) (n : Nat) (ret : Option FieldType) (fr lo : Nat) (av : List Value) (st : XS) (r9 : Int64) (st9 : XS) : Prop :=
  Met l y (xk_ws y b n ret) (xk_rm fr lo) (va_Pc av (xk_pre D cI cZ A adK adV w st)) (va_Ql (fun (r : Int64) (u : XS) => r = r9 ∧ u = st9) (fun u t => va_P D classes (w u) t.heap) A) 0 0 A
def K_V (l : Launch) (D : va_G) (cI cZ : ClassId) (A : Nat → Prop) (adK adV : Nat → Nat) (w : XS → va_W) (y : MethodName) (b : ByteArray) (n : Nat) (ret : Option FieldType) (fr lo : Nat) (av : List Value) (st : XS) (st9 : XS) : Prop :=
  Met l y (xk_ws y b n ret) (xk_rm fr lo) (va_Pc av (xk_pre D cI cZ A adK adV w st)) (va_Qv (fun (u : XS) => u = st9) (fun u t => va_P D classes (w u) t.heap) A) 0 0 A
theorem xk_E_same {A : Nat → Prop} {adK adV : Nat → Nat} {U V : State} (h : xk_E A adK adV U) (hv : V.vm = U.vm) (hh : V.heap = U.heap) : xk_E A adK adV V := by
  obtain ⟨h1, h2, h3, h4, h5⟩ := h
  have ha : U.vm.Alike V.vm := by rw [hv]; exact Vm.Alike.refl _
  refine ⟨?_, ?_, vk_R.same hv h3, vk_R.same hv h4, va_Nw.same rfl hv.symm h5⟩
  · rw [hh]; exact va_Z.moved ha h1
  · rw [hh]; exact vk_S.moved ha h2
theorem xk_E_to {A A0 : Nat → Prop} {adK adV : Nat → Nat} {s U : State} {H : Heap} {locs : List Loc} (h : xk_E A0 adK adV s) (hAA : ∀ q, A q → A0 q) (hS : va_S A0 s.heap H locs) (hU : U.heap = H) (hW : s.WarmedH U.vm) : xk_E A adK adV U := by
  obtain ⟨h1, h2, h3, h4, h5⟩ := h
  refine ⟨?_, ?_, vk_R.warm hW h3, vk_R.warm hW h4, va_Nw.warmM hW h5⟩
  · rw [hU]; exact va_Z.moved hW.alike ((h1.kept hS.2.1).narrow hAA)
  · rw [hU]; exact vk_S.moved hW.alike ((h2.kept hS.2.1).narrow hAA)
theorem xk_blind {D : va_G} {cI cZ : ClassId} {A : Nat → Prop} {adK adV : Nat → Nat} {w : XS → va_W} {st : XS} {av : List Value} : FrameBlind (va_Pc av (xk_pre D cI cZ A adK adV w st)) := fun a U g mk h => by
  obtain ⟨h0, hP, hK, hE⟩ := h
  exact ⟨h0, hP, va_K.moved (u := U) (U := U.calling g mk a) (Vm.Alike.refl U.vm) hK, xk_E_same hE rfl rfl⟩
theorem xk_Pto {D : va_G} {cI cZ : ClassId} {A A0 : Nat → Prop} {adK adV : Nat → Nat} {w : XS → va_W} {st : XS} {av : List Value} {s : State} {H : Heap} {locs : List Loc} (hK : va_K D classes (xk_tys cI cZ) s) (hE : xk_E A0 adK adV s) (hAA : ∀ q, A q → A0 q) (hP : va_P D classes (w st) H) (hS : va_S A0 s.heap H locs) : ∀ U : State, U.heap = H → s.WarmedH U.vm → va_Pc av (xk_pre D cI cZ A adK adV w st) av.toArray U :=
  fun U hU hW => ⟨rfl, by rw [hU]; exact hP, va_K.moved hW.alike hK, xk_E_to hE hAA hS hU hW⟩
theorem xk_gin {y : MethodName} {b : ByteArray} {n : Nat} {ret : Option FieldType} (h : Cond.code y b n ret ∈ gd_tbl) : GoodIn gd_tbl (xk_ws y b n ret) := fun w hw => by
  rcases List.mem_cons.mp hw with e | h1
  · subst e; exact ⟨h, good_of_word (good_tbl _ h).2⟩
  · exact ⟨h1, good_of_word (good_tbl _ h1).2⟩
def xk_ok (y : MethodName) (b : ByteArray) (nC : Nat) (ret : Option FieldType) (n : Nat) : Prop := GoodIn gd_tbl (xk_ws y b nC ret) ∧ Cond.initialized y.cls ∈ gd_tbl ∧ (y.cls ≠ "java/lang/invoke/MethodHandle" ∧ y.cls ≠ "java/lang/invoke/VarHandle" ∧ (parseMethodDescriptor y.desc).map (fun d => d.parameters.length) = some n)
section XST
variable {l : Launch} {D : va_G} {cI cZ : ClassId} {A : Nat → Prop} {adK adV : Nat → Nat} {w : XS → va_W} {y : MethodName} {b : ByteArray} {n fr lo : Nat} {ret : Option FieldType} {av : List Value} {st st9 : XS}
theorem xk_startI {r9 : Int32} (hy : plainName y.cls = true) (ty : FieldType) (hret : ret = some ty) (hlen : (lg_sl av).length ≤ n)
    (body : ∀ (p : Program) (e : Env) (s : State) (m : MethodId) (args : Array Value) (below : List Frame) (meth : Method) (c : Code) (Q : State → Prop) (ls : Array Slot), p.tables.exec = Jvm.exec → c.code = b → c.maxLocals = n → s.vm.findClass y.cls = some m.cls → (∀ w ∈ gd_tbl, w.before args s = true) → va_K D classes (xk_tys cI cZ) s → xk_E A adK adV s → va_P D classes (w st) s.heap → va_S A s.heap s.heap [] → lv_has ls n (lv_args 0 av) →
      (∀ (pc : Nat) (H : Heap) (locs : List Loc) (ls : Array Slot), decode b pc = .ok (.ireturn, 1) → narrow ty (.int r9) = .int r9 → va_P D classes (w st9) H → va_S A s.heap H locs → W p l e (xk_rm fr lo) s m args below meth c H locs 0 0 Q (F0 m pc ls [.int r9])) →
      W p l e (xk_rm fr lo) s m args below meth c s.heap [] 0 0 Q (F0 m 0 ls [])) : K_I l D cI cZ A adK adV w y b n ret fr lo av st r9 st9 := by
  refine Met.ofW (cc := b) (maxL := n) (ret := ret) hy rfl ?_
  intro p e s m args below meth c s₁ B hml hv
  obtain ⟨rfl, hP, hK, hE⟩ := hv
  have hts : ∀ w ∈ gd_tbl, w.before av.toArray s = true := fun w h => atoms_spec (ws := xk_ws y b n ret) B.pre w (List.mem_cons_of_mem _ h)
  have hr := B.returns
  have hl := lv_entry av (n := n) hlen
  have hb9 := B.bytes
  have hx := B.exec
  have hlocks := B.notSynchronized
  rw [lg_entry_eq]
  generalize (lg_sl av ++ List.replicate (n - (lg_sl av).length) Slot.unset).toArray = ls at hl ⊢
  exact body p e s m _ below meth c _ ls hx hb9 hml (findClass_of_methodNamed B.named) hts hK hE hP va_S.rf hl (fun pc H locs ls hd hn hP hS => W.zret (ty := ty) hx hb9 (by rw [hr, hret]) hn (fun t ht hW => ⟨⟨r9, st9, rfl, ⟨rfl, rfl⟩, by show va_P D classes (w st9) t.heap; rw [ht]; exact hP⟩, hS.F ht⟩) hS.2.2 hd hlocks)
theorem xk_startL {r9 : Int64} (hy : plainName y.cls = true) (hret : ret = some .long) (hlen : (lg_sl av).length ≤ n)
    (body : ∀ (p : Program) (e : Env) (s : State) (m : MethodId) (args : Array Value) (below : List Frame) (meth : Method) (c : Code) (Q : State → Prop) (ls : Array Slot), p.tables.exec = Jvm.exec → c.code = b → c.maxLocals = n → s.vm.findClass y.cls = some m.cls → (∀ w ∈ gd_tbl, w.before args s = true) → va_K D classes (xk_tys cI cZ) s → xk_E A adK adV s → va_P D classes (w st) s.heap → va_S A s.heap s.heap [] → lv_has ls n (lv_args 0 av) →
      (∀ (pc : Nat) (H : Heap) (locs : List Loc) (ls : Array Slot), decode b pc = .ok (.lreturn, 1) → va_P D classes (w st9) H → va_S A s.heap H locs → W p l e (xk_rm fr lo) s m args below meth c H locs 0 0 Q (F0 m pc ls [.long r9])) →
      W p l e (xk_rm fr lo) s m args below meth c s.heap [] 0 0 Q (F0 m 0 ls [])) : K_L l D cI cZ A adK adV w y b n ret fr lo av st r9 st9 := by
  refine Met.ofW (cc := b) (maxL := n) (ret := ret) hy rfl ?_
  intro p e s m args below meth c s₁ B hml hv
  obtain ⟨rfl, hP, hK, hE⟩ := hv
  have hts : ∀ w ∈ gd_tbl, w.before av.toArray s = true := fun w h => atoms_spec (ws := xk_ws y b n ret) B.pre w (List.mem_cons_of_mem _ h)
  have hr := B.returns
  have hl := lv_entry av (n := n) hlen
  have hb9 := B.bytes
  have hx := B.exec
  have hlocks := B.notSynchronized
  rw [lg_entry_eq]
  generalize (lg_sl av ++ List.replicate (n - (lg_sl av).length) Slot.unset).toArray = ls at hl ⊢
  exact body p e s m _ below meth c _ ls hx hb9 hml (findClass_of_methodNamed B.named) hts hK hE hP va_S.rf hl (fun pc H locs ls hd hP hS => W.lret hx hb9 (by rw [hr, hret]) (fun t ht hW => ⟨⟨r9, st9, rfl, ⟨rfl, rfl⟩, by show va_P D classes (w st9) t.heap; rw [ht]; exact hP⟩, hS.F ht⟩) hS.2.2 hd hlocks)
theorem xk_startV (hy : plainName y.cls = true) (hret : ret = none) (hlen : (lg_sl av).length ≤ n)
    (body : ∀ (p : Program) (e : Env) (s : State) (m : MethodId) (args : Array Value) (below : List Frame) (meth : Method) (c : Code) (Q : State → Prop) (ls : Array Slot), p.tables.exec = Jvm.exec → c.code = b → c.maxLocals = n → s.vm.findClass y.cls = some m.cls → (∀ w ∈ gd_tbl, w.before args s = true) → va_K D classes (xk_tys cI cZ) s → xk_E A adK adV s → va_P D classes (w st) s.heap → va_S A s.heap s.heap [] → lv_has ls n (lv_args 0 av) →
      (∀ (pc : Nat) (H : Heap) (locs : List Loc) (ls : Array Slot), decode b pc = .ok (.return_, 1) → va_P D classes (w st9) H → va_S A s.heap H locs → W p l e (xk_rm fr lo) s m args below meth c H locs 0 0 Q (F0 m pc ls [])) →
      W p l e (xk_rm fr lo) s m args below meth c s.heap [] 0 0 Q (F0 m 0 ls [])) : K_V l D cI cZ A adK adV w y b n ret fr lo av st st9 := by
  refine Met.ofW (cc := b) (maxL := n) (ret := ret) hy rfl ?_
  intro p e s m args below meth c s₁ B hml hv
  obtain ⟨rfl, hP, hK, hE⟩ := hv
  have hts : ∀ w ∈ gd_tbl, w.before av.toArray s = true := fun w h => atoms_spec (ws := xk_ws y b n ret) B.pre w (List.mem_cons_of_mem _ h)
  have hr := B.returns
  have hl := lv_entry av (n := n) hlen
  have hb9 := B.bytes
  have hx := B.exec
  have hlocks := B.notSynchronized
  rw [lg_entry_eq]
  generalize (lg_sl av ++ List.replicate (n - (lg_sl av).length) Slot.unset).toArray = ls at hl ⊢
  exact body p e s m _ below meth c _ ls hx hb9 hml (findClass_of_methodNamed B.named) hts hK hE hP va_S.rf hl (fun pc H locs ls hd hP hS => W.vret hx hb9 (by rw [hr, hret]) (fun t ht hW => ⟨⟨st9, rfl, rfl, by show va_P D classes (w st9) t.heap; rw [ht]; exact hP⟩, hS.F ht⟩) hS.2.2 hd hlocks)
end XST
section XCL
variable {p : Program} {l : Launch} {e : Env} {R : Room} {s : State} {m : MethodId} {args : Array Value} {below : List Frame} {meth : Method} {c : Code} {H : Heap} {locs : List Loc} {cells slots : Nat} {Q : State → Prop}
variable {D : va_G} {cI cZ : ClassId} {A A0 : Nat → Prop} {adK adV : Nat → Nat} {w : XS → va_W} {st st9 : XS} {own host : String} {index n nC nL fr lo a pc : Nat} {y : MethodName} {b cc : ByteArray} {ret : Option FieldType} {As rest stk : List Value} {ls : Array Slot} {Qc : Array Value → State → Outcome → State → Prop}
theorem xk_runV (hx : p.tables.exec = Jvm.exec) (hb : c.code = cc) (hml : c.maxLocals = nL) (hown : s.vm.findClass own = some m.cls) (hts : ∀ w ∈ gd_tbl, w.before args s = true) (hK : va_K D classes (xk_tys cI cZ) s) (hE : xk_E A0 adK adV s) (hAA : ∀ q, A q → A0 q) (hP : va_P D classes (w st) H) (hS : va_S A0 s.heap H locs)
    (hok : xk_ok y b nC ret n) (hin : Cond.instanceMethod y ∈ gd_tbl ∧ Cond.selects y.cls y y ∈ gd_tbl) (hlink : Cond.methodLink own index y ∈ gd_tbl) (hM : Met l y (xk_ws y b nC ret) (xk_rm fr lo) (va_Pc (.ref a :: As) (xk_pre D cI cZ A adK adV w st)) Qc 0 0 A)
    (hrecv : ∃ cell : Cell, H[a]? = some cell ∧ cell.vm.isStatics = false ∧ s.vm.findClass y.cls = some cell.cls) (hR : fr + 1 ≤ R.frames ∧ 8 + (nC + 11) + lo ≤ R.locals) (hn : As.length = n) (hsize : ls.size = nL) (hstack : stk = As.reverse ++ .ref a :: rest) (hW : (rest.map fun v => v.category).sum ≤ 8) (hdg : decode cc pc = .ok (.invokevirtual index, 3)) (hf : cells ≤ R.cells ∧ slots ≤ R.slots) :
    va_Run p l e R s m args below meth c H locs cells slots 0 0 (F0 m pc ls stk) rest (Qc (Value.ref a :: As).toArray) A :=
  va_runV (C := y.cls) ⟨hx, hb, hml, hown, hts⟩ hM ⟨callB_of n hts hok.1 rfl rfl rfl (hts _ hok.2.1) (hts _ hlink) hok.2.2 hR, hts _ hin.1, hts _ hin.2⟩ ⟨xk_blind, hrecv, xk_Pto hK hE hAA hP hS⟩ rfl hn hsize hstack (lv_room hW) hdg hf
theorem xk_runS (hx : p.tables.exec = Jvm.exec) (hb : c.code = cc) (hml : c.maxLocals = nL) (hown : s.vm.findClass own = some m.cls) (hts : ∀ w ∈ gd_tbl, w.before args s = true) (hK : va_K D classes (xk_tys cI cZ) s) (hE : xk_E A0 adK adV s) (hAA : ∀ q, A q → A0 q) (hP : va_P D classes (w st) H) (hS : va_S A0 s.heap H locs)
    (hok : xk_ok y b nC ret n) (hin : Cond.static y ∈ gd_tbl) (hlink : Cond.methodLink own index y ∈ gd_tbl) (hM : Met l y (xk_ws y b nC ret) (xk_rm fr lo) (va_Pc As (xk_pre D cI cZ A adK adV w st)) Qc 0 0 A)
    (hR : fr + 1 ≤ R.frames ∧ 8 + (nC + 11) + lo ≤ R.locals) (hn : As.length = n) (hsize : ls.size = nL) (hstack : stk = As.reverse ++ rest) (hW : (rest.map fun v => v.category).sum ≤ 8) (hdg : decode cc pc = .ok (.invokestatic index, 3)) (hf : cells ≤ R.cells ∧ slots ≤ R.slots) :
    va_Run p l e R s m args below meth c H locs cells slots 0 0 (F0 m pc ls stk) rest (Qc As.toArray) A :=
  va_runS ⟨hx, hb, hml, hown, hts⟩ hM ⟨callB_of n hts hok.1 rfl rfl rfl (hts _ hok.2.1) (hts _ hlink) hok.2.2 hR, hts _ hin⟩ ⟨xk_blind, xk_Pto hK hE hAA hP hS⟩ rfl hn hsize hstack (lv_room hW) hdg hf
theorem xk_runN (hx : p.tables.exec = Jvm.exec) (hb : c.code = cc) (hml : c.maxLocals = nL) (hown : s.vm.findClass own = some m.cls) (hts : ∀ w ∈ gd_tbl, w.before args s = true) (hK : va_K D classes (xk_tys cI cZ) s) (hE : xk_E A0 adK adV s) (hAA : ∀ q, A q → A0 q) (hP : va_P D classes (w st) H) (hS : va_S A0 s.heap H locs)
    (hok : xk_ok y b nC ret n) (hin : Cond.static y ∈ gd_tbl) (hlink : va_Nw (.methodLinkNest own index y host) s) (hM : Met l y (xk_ws y b nC ret) (xk_rm fr lo) (va_Pc As (xk_pre D cI cZ A adK adV w st)) Qc 0 0 A)
    (hR : fr + 1 ≤ R.frames ∧ 8 + (nC + 11) + lo ≤ R.locals) (hn : As.length = n) (hsize : ls.size = nL) (hstack : stk = As.reverse ++ rest) (hW : (rest.map fun v => v.category).sum ≤ 8) (hdg : decode cc pc = .ok (.invokestatic index, 3)) (hf : cells ≤ R.cells ∧ slots ≤ R.slots) :
    va_Run p l e R s m args below meth c H locs cells slots 0 0 (F0 m pc ls stk) rest (Qc As.toArray) A :=
  va_runSN (host := host) ⟨hx, hb, hml, hown, hts⟩ hM ⟨va_cnB n hts hok.1 rfl rfl rfl hlink (hts _ hok.2.1) hok.2.2 hR, hts _ hin, trivial⟩ ⟨xk_blind, xk_Pto hK hE hAA hP hS⟩ rfl hn hsize hstack (lv_room hW) hdg hf
theorem xk_goI {r9 : Int32} {a9 : Array Value} (hr : va_Run p l e R s m args below meth c H locs cells slots 0 0 (F0 m pc ls stk) rest (va_Qi (fun (r : Int32) (u : XS) => r = r9 ∧ u = st9) (fun u t => va_P D classes (w u) t.heap) A a9) A) (hAA : ∀ q, A q → A0 q) (hS : va_S A0 s.heap H locs)
    (kk : ∀ (H1 : Heap) (locs1 : List Loc), va_P D classes (w st9) H1 → va_S A0 s.heap H1 locs1 → W p l e R s m args below meth c H1 locs1 cells slots Q (F0 m (pc + 3) ls (.int r9 :: rest))) : W p l e R s m args below meth c H locs cells slots Q (F0 m pc ls stk) :=
  va_calli hr hS (fun q _ h => hAA q h) hAA (fun r u t H1 locs1 ht _ hw hB _ _ hS => by obtain ⟨rfl, rfl⟩ := hw; rw [ht] at hB; exact kk H1 locs1 hB hS)
theorem xk_goL {r9 : Int64} {a9 : Array Value} (hr : va_Run p l e R s m args below meth c H locs cells slots 0 0 (F0 m pc ls stk) rest (va_Ql (fun (r : Int64) (u : XS) => r = r9 ∧ u = st9) (fun u t => va_P D classes (w u) t.heap) A a9) A) (hAA : ∀ q, A q → A0 q) (hS : va_S A0 s.heap H locs)
    (kk : ∀ (H1 : Heap) (locs1 : List Loc), va_P D classes (w st9) H1 → va_S A0 s.heap H1 locs1 → W p l e R s m args below meth c H1 locs1 cells slots Q (F0 m (pc + 3) ls (.long r9 :: rest))) : W p l e R s m args below meth c H locs cells slots Q (F0 m pc ls stk) :=
  va_calll hr hS (fun q _ h => hAA q h) hAA (fun r u t H1 locs1 ht _ hw hB _ _ hS => by obtain ⟨rfl, rfl⟩ := hw; rw [ht] at hB; exact kk H1 locs1 hB hS)
theorem xk_goV {a9 : Array Value} (hr : va_Run p l e R s m args below meth c H locs cells slots 0 0 (F0 m pc ls stk) rest (va_Qv (fun (u : XS) => u = st9) (fun u t => va_P D classes (w u) t.heap) A a9) A) (hAA : ∀ q, A q → A0 q) (hS : va_S A0 s.heap H locs)
    (kk : ∀ (H1 : Heap) (locs1 : List Loc), va_P D classes (w st9) H1 → va_S A0 s.heap H1 locs1 → W p l e R s m args below meth c H1 locs1 cells slots Q (F0 m (pc + 3) ls rest)) : W p l e R s m args below meth c H locs cells slots Q (F0 m pc ls stk) :=
  va_callv hr hS (fun q _ h => hAA q h) hAA (fun u t H1 locs1 ht _ hw hB _ _ hS => by subst hw; rw [ht] at hB; exact kk H1 locs1 hB hS)
end XCL
section XAR
variable {p : Program} {l : Launch} {e : Env} {R : Room} {s : State} {m : MethodId} {args : Array Value} {below : List Frame} {meth : Method} {c : Code} {H : Heap} {locs : List Loc} {cells slots : Nat} {Q : State → Prop}
variable {cc : ByteArray} {pc : Nat} {ls : Array Slot} {rest : List Value} {D : va_G} {A : Nat → Prop} {a n : Nat} {cI cZ : ClassId} {ws ws' : va_W} {H0 : Heap} {f : Nat → Int32}
theorem xk_iald (hx : p.tables.exec = Jvm.exec) (hb : c.code = cc) (hK : va_K D classes (xk_tys cI cZ) s) (hP : va_P D classes ws H) (q0 : Nat) (ha : ws[q0]? = some (a, .inl (cI, n, .inl f))) {i v : Int32} (hr : xo_rd f n i = some v) (hdg : decode cc pc = .ok (.iaload, 1))
    (kk : W p l e R s m args below meth c H locs cells slots Q (F0 m (pc + 1) ls (.int v :: rest))) : W p l e R s m args below meth c H locs cells slots Q (F0 m pc ls (.int i :: .ref a :: rest)) := by
  obtain ⟨h1, h2⟩ := xo_rd_e hr
  subst h2
  exact va_iald hx hb hK hP q0 0 ha rfl h1 hdg kk
theorem xk_zald (hx : p.tables.exec = Jvm.exec) (hb : c.code = cc) (hK : va_K D classes (xk_tys cI cZ) s) (hP : va_P D classes ws H) (q0 : Nat) (ha : ws[q0]? = some (a, .inl (cZ, n, .inl f))) {i v : Int32} (hr : xo_rd f n i = some v) (hdg : decode cc pc = .ok (.baload, 1))
    (kk : W p l e R s m args below meth c H locs cells slots Q (F0 m (pc + 1) ls (.int v :: rest))) : W p l e R s m args below meth c H locs cells slots Q (F0 m pc ls (.int i :: .ref a :: rest)) := by
  obtain ⟨h1, h2⟩ := xo_rd_e hr
  subst h2
  exact va_zald hx hb hK hP q0 1 ha rfl h1 hdg kk
theorem xk_iast (hx : p.tables.exec = Jvm.exec) (hb : c.code = cc) (hK : va_K D classes (xk_tys cI cZ) s) (hP : va_P D classes ws H) (hD : va_D A ws) (hS : va_S A H0 H locs) (q0 : Nat) (ha : ws[q0]? = some (a, .inl (cI, n, .inl f))) {i x : Int32} {u : Unit} (hr : xo_ck n i = some u) (hset : ws.set q0 (a, .inl (cI, n, .inl (upd f i.toNatClampNeg x))) = ws') (hdg : decode cc pc = .ok (.iastore, 1))
    (kk : ∀ (H1 : Heap) (locs1 : List Loc), va_P D classes ws' H1 → va_S A H0 H1 locs1 → W p l e R s m args below meth c H1 locs1 cells slots Q (F0 m (pc + 1) ls rest)) : W p l e R s m args below meth c H locs cells slots Q (F0 m pc ls (.int x :: .int i :: .ref a :: rest)) := by
  subst hset
  exact va_iast hx hb hK hP hD hS q0 0 ha rfl (xo_ck_e hr) hdg (fun H1 locs1 h1 _ h3 => kk H1 locs1 h1 h3)
theorem xk_zast (hx : p.tables.exec = Jvm.exec) (hb : c.code = cc) (hK : va_K D classes (xk_tys cI cZ) s) (hP : va_P D classes ws H) (hD : va_D A ws) (hS : va_S A H0 H locs) (q0 : Nat) (ha : ws[q0]? = some (a, .inl (cZ, n, .inl f))) {i x : Int32} {u : Unit} (hr : xo_ck n i = some u) (hset : ws.set q0 (a, .inl (cZ, n, .inl (upd f i.toNatClampNeg (vp_nar .boolean x)))) = ws') (hdg : decode cc pc = .ok (.bastore, 1))
    (kk : ∀ (H1 : Heap) (locs1 : List Loc), va_P D classes ws' H1 → va_S A H0 H1 locs1 → W p l e R s m args below meth c H1 locs1 cells slots Q (F0 m (pc + 1) ls rest)) : W p l e R s m args below meth c H locs cells slots Q (F0 m pc ls (.int x :: .int i :: .ref a :: rest)) := by
  subst hset
  exact va_zast hx hb hK hP hD hS q0 1 ha rfl (xo_ck_e hr) hdg (fun H1 locs1 h1 _ h3 => kk H1 locs1 h1 h3)
theorem xk_idiv (hx : p.tables.exec = Jvm.exec) (hb : c.code = cc) {x y v : Int32} (hdg : decode cc pc = .ok (.idiv, 1)) (hr : xo_dv x y = some v)
    (k : W p l e R s m args below meth c H locs cells slots Q (F0 m (pc + 1) ls (.int v :: rest))) : W p l e R s m args below meth c H locs cells slots Q (F0 m pc ls (.int y :: .int x :: rest)) := by
  obtain ⟨h1, h2⟩ := xo_dv_e hr
  subst h2
  exact lv_idiv hx hb hdg h1 k
theorem xk_irem (hx : p.tables.exec = Jvm.exec) (hb : c.code = cc) {x y v : Int32} (hdg : decode cc pc = .ok (.irem, 1)) (hr : xo_rm x y = some v)
    (k : W p l e R s m args below meth c H locs cells slots Q (F0 m (pc + 1) ls (.int v :: rest))) : W p l e R s m args below meth c H locs cells slots Q (F0 m pc ls (.int y :: .int x :: rest)) := by
  obtain ⟨h1, h2⟩ := xo_rm_e hr
  subst h2
  exact lv_irem hx hb hdg h1 k
theorem xk_put (hx : p.tables.exec = Jvm.exec) (hb : c.code = cc) {own C : String} {T : u_T} {N ci index : Nat} (hts : ∀ w ∈ gd_tbl, w.before args s = true) (hin : ∀ w ∈ u_ws C T N, w ∈ gd_tbl) (ty0 : Nat → FieldType) (hty : ∀ k, k < N → parseFieldDescriptor (T k).2.2.1 = some (ty0 k)) (hnm : ∀ a, a < N → ∀ b, b < N → a ≠ b → (T a).2.1 ≠ (T b).2.1) (hown : s.vm.findClass own = some m.cls) (hK : va_K D classes (xk_tys cI cZ) s) (hP : va_P D classes ws H) (hD : va_D A ws) (hS0 : va_S A H0 H locs) (q0 : Nat) {fs : List Value} (he : ws[q0]? = some (a, .inr (ci, fs))) (hc : classes[ci]? = some (C, T, N)) (k : Nat) (hk : k < N) (hlink : Cond.fieldLink own index (T k).1 (T k).2.1 (T k).2.2.1 ∈ gd_tbl) (hfin : (T k).2.2.2 = false) {ty : FieldType} {v : Value} (hd : parseFieldDescriptor (T k).2.2.1 = some ty) (hn : narrow ty v = v) (hfit : fits ty v = true) (hl : k < fs.length) (hset : ws.set q0 (a, .inr (ci, fs.set k v)) = ws')
    (hdg : decode cc pc = .ok (.putfield index, 3)) (kk : ∀ (H1 : Heap) (locs1 : List Loc), va_P D classes ws' H1 → va_S A H0 H1 locs1 → W p l e R s m args below meth c H1 locs1 cells slots Q (F0 m (pc + 3) ls rest)) : W p l e R s m args below meth c H locs cells slots Q (F0 m pc ls (v :: .ref a :: rest)) := by
  subst hset
  exact va_put (ref := (T k).1) hx hb hts hin ty0 hty hnm hown hK hP hD hS0 q0 he hc k hk (hts _ hlink) (fun _ h9 => h9) hfin hd hn hfit hl hdg (fun H1 locs1 h1 _ h3 => kk H1 locs1 h1 h3)
theorem xk_get (hx : p.tables.exec = Jvm.exec) (hb : c.code = cc) {own C : String} {T : u_T} {N ci index : Nat} (hts : ∀ w ∈ gd_tbl, w.before args s = true) (hin : ∀ w ∈ u_ws C T N, w ∈ gd_tbl) (hown : s.vm.findClass own = some m.cls) (hK : va_K D classes (xk_tys cI cZ) s) (hP : va_P D classes ws H) (q0 : Nat) {fs : List Value} (he : ws[q0]? = some (a, .inr (ci, fs))) (hc : classes[ci]? = some (C, T, N)) (k : Nat) (hk : k < N) (hlink : Cond.fieldLink own index (T k).1 (T k).2.1 (T k).2.2.1 ∈ gd_tbl) {v : Value} (hv : fs[k]? = some v) (hdg : decode cc pc = .ok (.getfield index, 3))
    (kk : W p l e R s m args below meth c H locs cells slots Q (F0 m (pc + 3) ls (v :: rest))) : W p l e R s m args below meth c H locs cells slots Q (F0 m pc ls (.ref a :: rest)) :=
  va_get (ref := (T k).1) hx hb hts hin hown hK hP q0 he hc k hk (hts _ hlink) (fun _ h9 => h9) hv hdg kk
end XAR
theorem xk_ne {x k : Int32} (h : ¬ x = k) : x.toInt ≠ k.toInt := fun e => h (Int32.toInt_inj.mp e)
theorem xk_out_0_2 {x : Int32} (h0 : ¬ x = (0 : Int32)) (h1 : ¬ x = (1 : Int32)) (h2 : ¬ x = (2 : Int32)) : x.toInt < 0 ∨ 2 < x.toInt := by
  have a0 : x.toInt ≠ 0 := xk_ne h0
  have a1 : x.toInt ≠ 1 := xk_ne h1
  have a2 : x.toInt ≠ 2 := xk_ne h2
  omega
theorem xk_out_0_3 {x : Int32} (h0 : ¬ x = (0 : Int32)) (h1 : ¬ x = (1 : Int32)) (h2 : ¬ x = (2 : Int32)) (h3 : ¬ x = (3 : Int32)) : x.toInt < 0 ∨ 3 < x.toInt := by
  have a0 := xk_out_0_2 h0 h1 h2
  have a3 : x.toInt ≠ 3 := xk_ne h3
  omega
theorem xk_out_0_4 {x : Int32} (h0 : ¬ x = (0 : Int32)) (h1 : ¬ x = (1 : Int32)) (h2 : ¬ x = (2 : Int32)) (h3 : ¬ x = (3 : Int32)) (h4 : ¬ x = (4 : Int32)) : x.toInt < 0 ∨ 4 < x.toInt := by
  have a0 := xk_out_0_3 h0 h1 h2 h3
  have a4 : x.toInt ≠ 4 := xk_ne h4
  omega
theorem xk_out_1_5 {x : Int32} (h1 : ¬ x = (1 : Int32)) (h2 : ¬ x = (2 : Int32)) (h3 : ¬ x = (3 : Int32)) (h4 : ¬ x = (4 : Int32)) (h5 : ¬ x = (5 : Int32)) : x.toInt < 1 ∨ 5 < x.toInt := by
  have a1 : x.toInt ≠ 1 := xk_ne h1
  have a2 : x.toInt ≠ 2 := xk_ne h2
  have a3 : x.toInt ≠ 3 := xk_ne h3
  have a4 : x.toInt ≠ 4 := xk_ne h4
  have a5 : x.toInt ≠ 5 := xk_ne h5
  omega
