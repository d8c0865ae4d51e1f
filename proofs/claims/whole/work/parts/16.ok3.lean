theorem rc_o0t : (List.range 27).all (rc_ok1 0) = true := by decide +kernel
theorem rc_o2t : (List.range 29).all (rc_ok1 2) = true := by decide +kernel
theorem rc_o6t : (List.range 55).all (rc_ok1 6) = true := by decide +kernel
theorem rc_o10t : (List.range 18).all (rc_ok1 10) = true := by decide +kernel
theorem rc_o31t : (List.range 78).all (rc_ok1 31) = true := by decide +kernel
theorem rc_o49t : (List.range 107).all (rc_ok1 49) = true := by decide +kernel
theorem rc_o53t : (List.range 61).all (rc_ok1 53) = true := by decide +kernel
theorem rc_o61t : (List.range 22).all (rc_ok1 61) = true := by decide +kernel
theorem rc_o64t : (List.range 18).all (rc_ok1 64) = true := by decide +kernel
theorem rc_o70t : (List.range 37).all (rc_ok1 70) = true := by decide +kernel
theorem rc_o72t : (List.range 10).all (rc_ok1 72) = true := by decide +kernel
theorem rc_o81t : (List.range 39).all (rc_ok1 81) = true := by decide +kernel
theorem rc_o87t : (List.range 67).all (rc_ok1 87) = true := by decide +kernel
theorem rc_o93t : (List.range 121).all (rc_ok1 93) = true := by decide +kernel
theorem rc_o101t : (List.range 154).all (rc_ok1 101) = true := by decide +kernel
theorem rc_o102t : (List.range 92).all (rc_ok1 102) = true := by decide +kernel
theorem rc_o106t : (List.range 99).all (rc_ok1 106) = true := by decide +kernel
theorem rc_o123t : (List.range 44).all (rc_ok1 123) = true := by decide +kernel
theorem rc_o129t : (List.range 16).all (rc_ok1 129) = true := by decide +kernel
theorem rc_o134t : (List.range 133).all (rc_ok1 134) = true := by decide +kernel
theorem rc_o138t : (List.range 12).all (rc_ok1 138) = true := by decide +kernel
theorem rc_o144t : (List.range 115).all (rc_ok1 144) = true := by decide +kernel
theorem rc_o147t : (List.range 31).all (rc_ok1 147) = true := by decide +kernel
theorem rc_o148t0 : (List.range 120).all (fun q => rc_ok1 148 (0 + q)) = true := by decide +kernel
theorem rc_o148t1 : (List.range 120).all (fun q => rc_ok1 148 (120 + q)) = true := by decide +kernel
theorem rc_o148t2 : (List.range 48).all (fun q => rc_ok1 148 (240 + q)) = true := by decide +kernel
theorem rc_o148t : (List.range 288).all (rc_ok1 148) = true := by
  refine List.all_eq_true.mpr fun pc hpc => ?_
  have hpc := List.mem_range.mp hpc
  rcases Nat.lt_or_ge pc 120 with h | h
  · have := List.all_eq_true.mp rc_o148t0 (pc - 0) (List.mem_range.mpr (by omega))
    rwa [show 0 + (pc - 0) = pc by omega] at this
  rcases Nat.lt_or_ge pc 240 with h | h
  · have := List.all_eq_true.mp rc_o148t1 (pc - 120) (List.mem_range.mpr (by omega))
    rwa [show 120 + (pc - 120) = pc by omega] at this
  have := List.all_eq_true.mp rc_o148t2 (pc - 240) (List.mem_range.mpr (by omega))
  rwa [show 240 + (pc - 240) = pc by omega] at this
theorem rc_o158t : (List.range 149).all (rc_ok1 158) = true := by decide +kernel
theorem rc_o166t : (List.range 47).all (rc_ok1 166) = true := by decide +kernel
theorem rc_o168t : (List.range 71).all (rc_ok1 168) = true := by decide +kernel
theorem rc_o171t : (List.range 22).all (rc_ok1 171) = true := by decide +kernel
theorem rc_o174t : (List.range 26).all (rc_ok1 174) = true := by decide +kernel
theorem rc_o180t : (List.range 86).all (rc_ok1 180) = true := by decide +kernel
theorem rc_o181t0 : (List.range 120).all (fun q => rc_ok1 181 (0 + q)) = true := by decide +kernel
theorem rc_o181t1 : (List.range 50).all (fun q => rc_ok1 181 (120 + q)) = true := by decide +kernel
theorem rc_o181t : (List.range 170).all (rc_ok1 181) = true := by
  refine List.all_eq_true.mpr fun pc hpc => ?_
  have hpc := List.mem_range.mp hpc
  rcases Nat.lt_or_ge pc 120 with h | h
  · have := List.all_eq_true.mp rc_o181t0 (pc - 0) (List.mem_range.mpr (by omega))
    rwa [show 0 + (pc - 0) = pc by omega] at this
  have := List.all_eq_true.mp rc_o181t1 (pc - 120) (List.mem_range.mpr (by omega))
  rwa [show 120 + (pc - 120) = pc by omega] at this
theorem rc_o185t : (List.range 53).all (rc_ok1 185) = true := by decide +kernel
