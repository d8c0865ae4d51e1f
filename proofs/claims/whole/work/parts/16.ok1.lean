theorem rc_o1t : (List.range 55).all (rc_ok1 1) = true := by decide +kernel
theorem rc_o3t : (List.range 118).all (rc_ok1 3) = true := by decide +kernel
theorem rc_o4t : (List.range 43).all (rc_ok1 4) = true := by decide +kernel
theorem rc_o14t : (List.range 53).all (rc_ok1 14) = true := by decide +kernel
theorem rc_o16t : (List.range 79).all (rc_ok1 16) = true := by decide +kernel
theorem rc_o38t : (List.range 31).all (rc_ok1 38) = true := by decide +kernel
theorem rc_o42t : (List.range 9).all (rc_ok1 42) = true := by decide +kernel
theorem rc_o66t : (List.range 96).all (rc_ok1 66) = true := by decide +kernel
theorem rc_o68t : (List.range 28).all (rc_ok1 68) = true := by decide +kernel
theorem rc_o69t : (List.range 26).all (rc_ok1 69) = true := by decide +kernel
theorem rc_o84t : (List.range 21).all (rc_ok1 84) = true := by decide +kernel
theorem rc_o97t : (List.range 6).all (rc_ok1 97) = true := by decide +kernel
theorem rc_o111t : (List.range 24).all (rc_ok1 111) = true := by decide +kernel
theorem rc_o112t : (List.range 33).all (rc_ok1 112) = true := by decide +kernel
theorem rc_o119t : (List.range 40).all (rc_ok1 119) = true := by decide +kernel
theorem rc_o121t : (List.range 13).all (rc_ok1 121) = true := by decide +kernel
theorem rc_o125t : (List.range 15).all (rc_ok1 125) = true := by decide +kernel
theorem rc_o128t : (List.range 18).all (rc_ok1 128) = true := by decide +kernel
theorem rc_o131t : (List.range 30).all (rc_ok1 131) = true := by decide +kernel
theorem rc_o133t : (List.range 100).all (rc_ok1 133) = true := by decide +kernel
theorem rc_o143t : (List.range 64).all (rc_ok1 143) = true := by decide +kernel
theorem rc_o151t : (List.range 48).all (rc_ok1 151) = true := by decide +kernel
theorem rc_o162t : (List.range 75).all (rc_ok1 162) = true := by decide +kernel
theorem rc_o164t : (List.range 62).all (rc_ok1 164) = true := by decide +kernel
theorem rc_o169t : (List.range 19).all (rc_ok1 169) = true := by decide +kernel
theorem rc_o179t : (List.range 111).all (rc_ok1 179) = true := by decide +kernel
theorem rc_o183t : (List.range 90).all (rc_ok1 183) = true := by decide +kernel
theorem rc_o189t0 : (List.range 120).all (fun q => rc_ok1 189 (0 + q)) = true := by decide +kernel
theorem rc_o189t1 : (List.range 120).all (fun q => rc_ok1 189 (120 + q)) = true := by decide +kernel
theorem rc_o189t2 : (List.range 120).all (fun q => rc_ok1 189 (240 + q)) = true := by decide +kernel
theorem rc_o189t3 : (List.range 120).all (fun q => rc_ok1 189 (360 + q)) = true := by decide +kernel
theorem rc_o189t4 : (List.range 120).all (fun q => rc_ok1 189 (480 + q)) = true := by decide +kernel
theorem rc_o189t5 : (List.range 120).all (fun q => rc_ok1 189 (600 + q)) = true := by decide +kernel
theorem rc_o189t6 : (List.range 120).all (fun q => rc_ok1 189 (720 + q)) = true := by decide +kernel
theorem rc_o189t7 : (List.range 120).all (fun q => rc_ok1 189 (840 + q)) = true := by decide +kernel
theorem rc_o189t8 : (List.range 36).all (fun q => rc_ok1 189 (960 + q)) = true := by decide +kernel
theorem rc_o189t : (List.range 996).all (rc_ok1 189) = true := by
  refine List.all_eq_true.mpr fun pc hpc => ?_
  have hpc := List.mem_range.mp hpc
  rcases Nat.lt_or_ge pc 120 with h | h
  · have := List.all_eq_true.mp rc_o189t0 (pc - 0) (List.mem_range.mpr (by omega))
    rwa [show 0 + (pc - 0) = pc by omega] at this
  rcases Nat.lt_or_ge pc 240 with h | h
  · have := List.all_eq_true.mp rc_o189t1 (pc - 120) (List.mem_range.mpr (by omega))
    rwa [show 120 + (pc - 120) = pc by omega] at this
  rcases Nat.lt_or_ge pc 360 with h | h
  · have := List.all_eq_true.mp rc_o189t2 (pc - 240) (List.mem_range.mpr (by omega))
    rwa [show 240 + (pc - 240) = pc by omega] at this
  rcases Nat.lt_or_ge pc 480 with h | h
  · have := List.all_eq_true.mp rc_o189t3 (pc - 360) (List.mem_range.mpr (by omega))
    rwa [show 360 + (pc - 360) = pc by omega] at this
  rcases Nat.lt_or_ge pc 600 with h | h
  · have := List.all_eq_true.mp rc_o189t4 (pc - 480) (List.mem_range.mpr (by omega))
    rwa [show 480 + (pc - 480) = pc by omega] at this
  rcases Nat.lt_or_ge pc 720 with h | h
  · have := List.all_eq_true.mp rc_o189t5 (pc - 600) (List.mem_range.mpr (by omega))
    rwa [show 600 + (pc - 600) = pc by omega] at this
  rcases Nat.lt_or_ge pc 840 with h | h
  · have := List.all_eq_true.mp rc_o189t6 (pc - 720) (List.mem_range.mpr (by omega))
    rwa [show 720 + (pc - 720) = pc by omega] at this
  rcases Nat.lt_or_ge pc 960 with h | h
  · have := List.all_eq_true.mp rc_o189t7 (pc - 840) (List.mem_range.mpr (by omega))
    rwa [show 840 + (pc - 840) = pc by omega] at this
  have := List.all_eq_true.mp rc_o189t8 (pc - 960) (List.mem_range.mpr (by omega))
  rwa [show 960 + (pc - 960) = pc by omega] at this
