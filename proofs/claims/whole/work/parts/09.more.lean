theorem xk_lk01 {x : Int32} {a b d : Int} (h0 : ¬ x = (0 : Int32)) (h1 : ¬ x = (1 : Int32)) : Op.lookupswitch.offset [(0, a), (1, b)] d x.toInt = d := by
  have a0 : x.toInt ≠ 0 := xk_ne h0
  have a1 : x.toInt ≠ 1 := xk_ne h1
  rw [Op.lookupswitch.offset_cons, if_neg (fun e => a0 e.symm), Op.lookupswitch.offset_cons, if_neg (fun e => a1 e.symm)]
  rfl
