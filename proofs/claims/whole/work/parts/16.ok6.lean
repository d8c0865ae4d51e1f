theorem rc_o17t : (List.range 55).all (rc_ok1 17) = true := by decide +kernel
theorem rc_o25t : (List.range 84).all (rc_ok1 25) = true := by decide +kernel
theorem rc_o29t : (List.range 6).all (rc_ok1 29) = true := by decide +kernel
theorem rc_o34t : (List.range 38).all (rc_ok1 34) = true := by decide +kernel
theorem rc_o37t : (List.range 30).all (rc_ok1 37) = true := by decide +kernel
theorem rc_o39t : (List.range 152).all (rc_ok1 39) = true := by decide +kernel
theorem rc_o43t : (List.range 18).all (rc_ok1 43) = true := by decide +kernel
theorem rc_o44 : ∀ pc, rc_ok1 44 pc = true := fun _ => rfl
theorem rc_o45t : (List.range 24).all (rc_ok1 45) = true := by decide +kernel
theorem rc_o48t : (List.range 105).all (rc_ok1 48) = true := by decide +kernel
theorem rc_o63t : (List.range 43).all (rc_ok1 63) = true := by decide +kernel
theorem rc_o71t : (List.range 29).all (rc_ok1 71) = true := by decide +kernel
theorem rc_o73t : (List.range 22).all (rc_ok1 73) = true := by decide +kernel
theorem rc_o82t : (List.range 145).all (rc_ok1 82) = true := by decide +kernel
theorem rc_o90t : (List.range 63).all (rc_ok1 90) = true := by decide +kernel
theorem rc_o91t : (List.range 49).all (rc_ok1 91) = true := by decide +kernel
theorem rc_o98t : (List.range 77).all (rc_ok1 98) = true := by decide +kernel
theorem rc_o100t : (List.range 16).all (rc_ok1 100) = true := by decide +kernel
theorem rc_o108t0 : (List.range 120).all (fun q => rc_ok1 108 (0 + q)) = true := by decide +kernel
theorem rc_o108t1 : (List.range 55).all (fun q => rc_ok1 108 (120 + q)) = true := by decide +kernel
theorem rc_o108t : (List.range 175).all (rc_ok1 108) = true := by
  refine List.all_eq_true.mpr fun pc hpc => ?_
  have hpc := List.mem_range.mp hpc
  rcases Nat.lt_or_ge pc 120 with h | h
  · have := List.all_eq_true.mp rc_o108t0 (pc - 0) (List.mem_range.mpr (by omega))
    rwa [show 0 + (pc - 0) = pc by omega] at this
  have := List.all_eq_true.mp rc_o108t1 (pc - 120) (List.mem_range.mpr (by omega))
  rwa [show 120 + (pc - 120) = pc by omega] at this
theorem rc_o109t : (List.range 58).all (rc_ok1 109) = true := by decide +kernel
theorem rc_o110t : (List.range 98).all (rc_ok1 110) = true := by decide +kernel
theorem rc_o114t : (List.range 27).all (rc_ok1 114) = true := by decide +kernel
theorem rc_o135t : (List.range 131).all (rc_ok1 135) = true := by decide +kernel
theorem rc_o150t : (List.range 21).all (rc_ok1 150) = true := by decide +kernel
theorem rc_o152t : (List.range 113).all (rc_ok1 152) = true := by decide +kernel
theorem rc_o155t : (List.range 45).all (rc_ok1 155) = true := by decide +kernel
theorem rc_o160t : (List.range 91).all (rc_ok1 160) = true := by decide +kernel
theorem rc_o161t : (List.range 68).all (rc_ok1 161) = true := by decide +kernel
theorem rc_o167t0 : (List.range 120).all (fun q => rc_ok1 167 (0 + q)) = true := by decide +kernel
theorem rc_o167t1 : (List.range 45).all (fun q => rc_ok1 167 (120 + q)) = true := by decide +kernel
theorem rc_o167t : (List.range 165).all (rc_ok1 167) = true := by
  refine List.all_eq_true.mpr fun pc hpc => ?_
  have hpc := List.mem_range.mp hpc
  rcases Nat.lt_or_ge pc 120 with h | h
  · have := List.all_eq_true.mp rc_o167t0 (pc - 0) (List.mem_range.mpr (by omega))
    rwa [show 0 + (pc - 0) = pc by omega] at this
  have := List.all_eq_true.mp rc_o167t1 (pc - 120) (List.mem_range.mpr (by omega))
  rwa [show 120 + (pc - 120) = pc by omega] at this
theorem rc_o172t : (List.range 15).all (rc_ok1 172) = true := by decide +kernel
theorem rc_o176t : (List.range 120).all (rc_ok1 176) = true := by decide +kernel
theorem rc_o178t0 : (List.range 120).all (fun q => rc_ok1 178 (0 + q)) = true := by decide +kernel
theorem rc_o178t1 : (List.range 55).all (fun q => rc_ok1 178 (120 + q)) = true := by decide +kernel
theorem rc_o178t : (List.range 175).all (rc_ok1 178) = true := by
  refine List.all_eq_true.mpr fun pc hpc => ?_
  have hpc := List.mem_range.mp hpc
  rcases Nat.lt_or_ge pc 120 with h | h
  · have := List.all_eq_true.mp rc_o178t0 (pc - 0) (List.mem_range.mpr (by omega))
    rwa [show 0 + (pc - 0) = pc by omega] at this
  have := List.all_eq_true.mp rc_o178t1 (pc - 120) (List.mem_range.mpr (by omega))
  rwa [show 120 + (pc - 120) = pc by omega] at this
theorem rc_o187t : (List.range 11).all (rc_ok1 187) = true := by decide +kernel
