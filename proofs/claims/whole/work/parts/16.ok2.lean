theorem rc_o5t : (List.range 30).all (rc_ok1 5) = true := by decide +kernel
theorem rc_o7t : (List.range 41).all (rc_ok1 7) = true := by decide +kernel
theorem rc_o9t : (List.range 120).all (rc_ok1 9) = true := by decide +kernel
theorem rc_o18t : (List.range 91).all (rc_ok1 18) = true := by decide +kernel
theorem rc_o20t : (List.range 32).all (rc_ok1 20) = true := by decide +kernel
theorem rc_o24t : (List.range 68).all (rc_ok1 24) = true := by decide +kernel
theorem rc_o30t : (List.range 97).all (rc_ok1 30) = true := by decide +kernel
theorem rc_o46t : (List.range 76).all (rc_ok1 46) = true := by decide +kernel
theorem rc_o51t : (List.range 25).all (rc_ok1 51) = true := by decide +kernel
theorem rc_o52t : (List.range 113).all (rc_ok1 52) = true := by decide +kernel
theorem rc_o56t : (List.range 63).all (rc_ok1 56) = true := by decide +kernel
theorem rc_o57t : (List.range 18).all (rc_ok1 57) = true := by decide +kernel
theorem rc_o58t : (List.range 55).all (rc_ok1 58) = true := by decide +kernel
theorem rc_o60t : (List.range 13).all (rc_ok1 60) = true := by decide +kernel
theorem rc_o62t : (List.range 29).all (rc_ok1 62) = true := by decide +kernel
theorem rc_o74t : (List.range 22).all (rc_ok1 74) = true := by decide +kernel
theorem rc_o78t : (List.range 27).all (rc_ok1 78) = true := by decide +kernel
theorem rc_o85t : (List.range 129).all (rc_ok1 85) = true := by decide +kernel
theorem rc_o89t : (List.range 8).all (rc_ok1 89) = true := by decide +kernel
theorem rc_o92t : (List.range 49).all (rc_ok1 92) = true := by decide +kernel
theorem rc_o99t : (List.range 39).all (rc_ok1 99) = true := by decide +kernel
theorem rc_o105t : (List.range 151).all (rc_ok1 105) = true := by decide +kernel
theorem rc_o107t : (List.range 107).all (rc_ok1 107) = true := by decide +kernel
theorem rc_o116t : (List.range 16).all (rc_ok1 116) = true := by decide +kernel
theorem rc_o130t : (List.range 59).all (rc_ok1 130) = true := by decide +kernel
theorem rc_o154t0 : (List.range 120).all (fun q => rc_ok1 154 (0 + q)) = true := by decide +kernel
theorem rc_o154t1 : (List.range 47).all (fun q => rc_ok1 154 (120 + q)) = true := by decide +kernel
theorem rc_o154t : (List.range 167).all (rc_ok1 154) = true := by
  refine List.all_eq_true.mpr fun pc hpc => ?_
  have hpc := List.mem_range.mp hpc
  rcases Nat.lt_or_ge pc 120 with h | h
  · have := List.all_eq_true.mp rc_o154t0 (pc - 0) (List.mem_range.mpr (by omega))
    rwa [show 0 + (pc - 0) = pc by omega] at this
  have := List.all_eq_true.mp rc_o154t1 (pc - 120) (List.mem_range.mpr (by omega))
  rwa [show 120 + (pc - 120) = pc by omega] at this
theorem rc_o156t : (List.range 45).all (rc_ok1 156) = true := by decide +kernel
theorem rc_o159t0 : (List.range 120).all (fun q => rc_ok1 159 (0 + q)) = true := by decide +kernel
theorem rc_o159t1 : (List.range 120).all (fun q => rc_ok1 159 (120 + q)) = true := by decide +kernel
theorem rc_o159t2 : (List.range 110).all (fun q => rc_ok1 159 (240 + q)) = true := by decide +kernel
theorem rc_o159t : (List.range 350).all (rc_ok1 159) = true := by
  refine List.all_eq_true.mpr fun pc hpc => ?_
  have hpc := List.mem_range.mp hpc
  rcases Nat.lt_or_ge pc 120 with h | h
  · have := List.all_eq_true.mp rc_o159t0 (pc - 0) (List.mem_range.mpr (by omega))
    rwa [show 0 + (pc - 0) = pc by omega] at this
  rcases Nat.lt_or_ge pc 240 with h | h
  · have := List.all_eq_true.mp rc_o159t1 (pc - 120) (List.mem_range.mpr (by omega))
    rwa [show 120 + (pc - 120) = pc by omega] at this
  have := List.all_eq_true.mp rc_o159t2 (pc - 240) (List.mem_range.mpr (by omega))
  rwa [show 240 + (pc - 240) = pc by omega] at this
theorem rc_o163t : (List.range 145).all (rc_ok1 163) = true := by decide +kernel
theorem rc_o177t : (List.range 85).all (rc_ok1 177) = true := by decide +kernel
theorem rc_o186t : (List.range 11).all (rc_ok1 186) = true := by decide +kernel
theorem rc_o188t : (List.range 21).all (rc_ok1 188) = true := by decide +kernel
