theorem rc_o12t : (List.range 9).all (rc_ok1 12) = true := by decide +kernel
theorem rc_o13t : (List.range 17).all (rc_ok1 13) = true := by decide +kernel
theorem rc_o23t : (List.range 52).all (rc_ok1 23) = true := by decide +kernel
theorem rc_o26t : (List.range 21).all (rc_ok1 26) = true := by decide +kernel
theorem rc_o32t : (List.range 108).all (rc_ok1 32) = true := by decide +kernel
theorem rc_o33t : (List.range 20).all (rc_ok1 33) = true := by decide +kernel
theorem rc_o40t : (List.range 117).all (rc_ok1 40) = true := by decide +kernel
theorem rc_o41t : (List.range 23).all (rc_ok1 41) = true := by decide +kernel
theorem rc_o47t : (List.range 75).all (rc_ok1 47) = true := by decide +kernel
theorem rc_o76t : (List.range 40).all (rc_ok1 76) = true := by decide +kernel
theorem rc_o77t : (List.range 15).all (rc_ok1 77) = true := by decide +kernel
theorem rc_o79t : (List.range 33).all (rc_ok1 79) = true := by decide +kernel
theorem rc_o80t : (List.range 96).all (rc_ok1 80) = true := by decide +kernel
theorem rc_o83t : (List.range 44).all (rc_ok1 83) = true := by decide +kernel
theorem rc_o86t : (List.range 141).all (rc_ok1 86) = true := by decide +kernel
theorem rc_o88t : (List.range 46).all (rc_ok1 88) = true := by decide +kernel
theorem rc_o94t : (List.range 105).all (rc_ok1 94) = true := by decide +kernel
theorem rc_o95t : (List.range 67).all (rc_ok1 95) = true := by decide +kernel
theorem rc_o96t : (List.range 6).all (rc_ok1 96) = true := by decide +kernel
theorem rc_o103t : (List.range 26).all (rc_ok1 103) = true := by decide +kernel
theorem rc_o104t : (List.range 86).all (rc_ok1 104) = true := by decide +kernel
theorem rc_o115t : (List.range 13).all (rc_ok1 115) = true := by decide +kernel
theorem rc_o122t : (List.range 59).all (rc_ok1 122) = true := by decide +kernel
theorem rc_o136t0 : (List.range 120).all (fun q => rc_ok1 136 (0 + q)) = true := by decide +kernel
theorem rc_o136t1 : (List.range 120).all (fun q => rc_ok1 136 (120 + q)) = true := by decide +kernel
theorem rc_o136t2 : (List.range 7).all (fun q => rc_ok1 136 (240 + q)) = true := by decide +kernel
theorem rc_o136t : (List.range 247).all (rc_ok1 136) = true := by
  refine List.all_eq_true.mpr fun pc hpc => ?_
  have hpc := List.mem_range.mp hpc
  rcases Nat.lt_or_ge pc 120 with h | h
  · have := List.all_eq_true.mp rc_o136t0 (pc - 0) (List.mem_range.mpr (by omega))
    rwa [show 0 + (pc - 0) = pc by omega] at this
  rcases Nat.lt_or_ge pc 240 with h | h
  · have := List.all_eq_true.mp rc_o136t1 (pc - 120) (List.mem_range.mpr (by omega))
    rwa [show 120 + (pc - 120) = pc by omega] at this
  have := List.all_eq_true.mp rc_o136t2 (pc - 240) (List.mem_range.mpr (by omega))
  rwa [show 240 + (pc - 240) = pc by omega] at this
theorem rc_o137t : (List.range 159).all (rc_ok1 137) = true := by decide +kernel
theorem rc_o139t : (List.range 28).all (rc_ok1 139) = true := by decide +kernel
theorem rc_o140t : (List.range 32).all (rc_ok1 140) = true := by decide +kernel
theorem rc_o141t : (List.range 30).all (rc_ok1 141) = true := by decide +kernel
theorem rc_o145t : (List.range 128).all (rc_ok1 145) = true := by decide +kernel
theorem rc_o149t : (List.range 57).all (rc_ok1 149) = true := by decide +kernel
theorem rc_o173t : (List.range 150).all (rc_ok1 173) = true := by decide +kernel
theorem rc_o175t : (List.range 80).all (rc_ok1 175) = true := by decide +kernel
theorem rc_o184t0 : (List.range 120).all (fun q => rc_ok1 184 (0 + q)) = true := by decide +kernel
theorem rc_o184t1 : (List.range 52).all (fun q => rc_ok1 184 (120 + q)) = true := by decide +kernel
theorem rc_o184t : (List.range 172).all (rc_ok1 184) = true := by
  refine List.all_eq_true.mpr fun pc hpc => ?_
  have hpc := List.mem_range.mp hpc
  rcases Nat.lt_or_ge pc 120 with h | h
  · have := List.all_eq_true.mp rc_o184t0 (pc - 0) (List.mem_range.mpr (by omega))
    rwa [show 0 + (pc - 0) = pc by omega] at this
  have := List.all_eq_true.mp rc_o184t1 (pc - 120) (List.mem_range.mpr (by omega))
  rwa [show 120 + (pc - 120) = pc by omega] at this
