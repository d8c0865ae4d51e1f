theorem rc_o8t : (List.range 98).all (rc_ok1 8) = true := by decide +kernel
theorem rc_o11t : (List.range 18).all (rc_ok1 11) = true := by decide +kernel
theorem rc_o15t : (List.range 69).all (rc_ok1 15) = true := by decide +kernel
theorem rc_o19t : (List.range 44).all (rc_ok1 19) = true := by decide +kernel
theorem rc_o21t : (List.range 48).all (rc_ok1 21) = true := by decide +kernel
theorem rc_o22t : (List.range 40).all (rc_ok1 22) = true := by decide +kernel
theorem rc_o27t : (List.range 15).all (rc_ok1 27) = true := by decide +kernel
theorem rc_o28t : (List.range 25).all (rc_ok1 28) = true := by decide +kernel
theorem rc_o35t : (List.range 122).all (rc_ok1 35) = true := by decide +kernel
theorem rc_o36t : (List.range 49).all (rc_ok1 36) = true := by decide +kernel
theorem rc_o50t : (List.range 27).all (rc_ok1 50) = true := by decide +kernel
theorem rc_o54t : (List.range 67).all (rc_ok1 54) = true := by decide +kernel
theorem rc_o55t : (List.range 134).all (rc_ok1 55) = true := by decide +kernel
theorem rc_o59t : (List.range 149).all (rc_ok1 59) = true := by decide +kernel
theorem rc_o65t : (List.range 85).all (rc_ok1 65) = true := by decide +kernel
theorem rc_o67t : (List.range 13).all (rc_ok1 67) = true := by decide +kernel
theorem rc_o75t : (List.range 31).all (rc_ok1 75) = true := by decide +kernel
theorem rc_o113t : (List.range 115).all (rc_ok1 113) = true := by decide +kernel
theorem rc_o117t : (List.range 10).all (rc_ok1 117) = true := by decide +kernel
theorem rc_o118t : (List.range 21).all (rc_ok1 118) = true := by decide +kernel
theorem rc_o120t0 : (List.range 120).all (fun q => rc_ok1 120 (0 + q)) = true := by decide +kernel
theorem rc_o120t1 : (List.range 120).all (fun q => rc_ok1 120 (120 + q)) = true := by decide +kernel
theorem rc_o120t2 : (List.range 42).all (fun q => rc_ok1 120 (240 + q)) = true := by decide +kernel
theorem rc_o120t : (List.range 282).all (rc_ok1 120) = true := by
  refine List.all_eq_true.mpr fun pc hpc => ?_
  have hpc := List.mem_range.mp hpc
  rcases Nat.lt_or_ge pc 120 with h | h
  · have := List.all_eq_true.mp rc_o120t0 (pc - 0) (List.mem_range.mpr (by omega))
    rwa [show 0 + (pc - 0) = pc by omega] at this
  rcases Nat.lt_or_ge pc 240 with h | h
  · have := List.all_eq_true.mp rc_o120t1 (pc - 120) (List.mem_range.mpr (by omega))
    rwa [show 120 + (pc - 120) = pc by omega] at this
  have := List.all_eq_true.mp rc_o120t2 (pc - 240) (List.mem_range.mpr (by omega))
  rwa [show 240 + (pc - 240) = pc by omega] at this
theorem rc_o124t0 : (List.range 120).all (fun q => rc_ok1 124 (0 + q)) = true := by decide +kernel
theorem rc_o124t1 : (List.range 51).all (fun q => rc_ok1 124 (120 + q)) = true := by decide +kernel
theorem rc_o124t : (List.range 171).all (rc_ok1 124) = true := by
  refine List.all_eq_true.mpr fun pc hpc => ?_
  have hpc := List.mem_range.mp hpc
  rcases Nat.lt_or_ge pc 120 with h | h
  · have := List.all_eq_true.mp rc_o124t0 (pc - 0) (List.mem_range.mpr (by omega))
    rwa [show 0 + (pc - 0) = pc by omega] at this
  have := List.all_eq_true.mp rc_o124t1 (pc - 120) (List.mem_range.mpr (by omega))
  rwa [show 120 + (pc - 120) = pc by omega] at this
theorem rc_o126t : (List.range 24).all (rc_ok1 126) = true := by decide +kernel
theorem rc_o127t : (List.range 18).all (rc_ok1 127) = true := by decide +kernel
theorem rc_o132t : (List.range 62).all (rc_ok1 132) = true := by decide +kernel
theorem rc_o142t : (List.range 156).all (rc_ok1 142) = true := by decide +kernel
theorem rc_o146t : (List.range 94).all (rc_ok1 146) = true := by decide +kernel
theorem rc_o153t : (List.range 36).all (rc_ok1 153) = true := by decide +kernel
theorem rc_o157t : (List.range 78).all (rc_ok1 157) = true := by decide +kernel
theorem rc_o165t : (List.range 30).all (rc_ok1 165) = true := by decide +kernel
theorem rc_o170t : (List.range 108).all (rc_ok1 170) = true := by decide +kernel
theorem rc_o182t : (List.range 58).all (rc_ok1 182) = true := by decide +kernel
