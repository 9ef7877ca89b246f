/-! methods, the words of their links (written by a program) -/
theorem jinT1 {q : Cond} (h : q ∈ tables_1_1) (hg : goodWord q = true) : q ∈ jTbl := List.mem_filter.mpr ⟨List.mem_append_right _ (List.mem_append_left _ h), hg⟩
theorem jinN1 {q : Cond} (h : q ∈ tables_1_1) (hg : jisN q = true) : q ∈ jNest := List.mem_filter.mpr ⟨List.mem_append_right _ (List.mem_append_left _ h), hg⟩
theorem jinS1 {x : MethodName × Nat} (i : Nat) (hi : lw_privs_1[i]? = some x) : Cond.selects x.1.cls x.1 x.1 ∈ jTbl := by
  have h := List.mem_of_getElem? hi
  refine List.mem_filter.mpr ⟨List.mem_append_left _ (List.mem_map.mpr ⟨x, List.mem_append_left _ h, rfl⟩), rfl⟩
theorem jinT2 {q : Cond} (h : q ∈ tables_1_2) (hg : goodWord q = true) : q ∈ jTbl := List.mem_filter.mpr ⟨List.mem_append_right _ (List.mem_append_right _ (List.mem_append_left _ h)), hg⟩
theorem jinN2 {q : Cond} (h : q ∈ tables_1_2) (hg : jisN q = true) : q ∈ jNest := List.mem_filter.mpr ⟨List.mem_append_right _ (List.mem_append_right _ (List.mem_append_left _ h)), hg⟩
theorem jinS2 {x : MethodName × Nat} (i : Nat) (hi : lw_privs_2[i]? = some x) : Cond.selects x.1.cls x.1 x.1 ∈ jTbl := by
  have h := List.mem_of_getElem? hi
  refine List.mem_filter.mpr ⟨List.mem_append_left _ (List.mem_map.mpr ⟨x, List.mem_append_right _ (List.mem_append_left _ h), rfl⟩), rfl⟩
theorem jinT3 {q : Cond} (h : q ∈ tables_1_3) (hg : goodWord q = true) : q ∈ jTbl := List.mem_filter.mpr ⟨List.mem_append_right _ (List.mem_append_right _ (List.mem_append_right _ (List.mem_append_left _ h))), hg⟩
theorem jinN3 {q : Cond} (h : q ∈ tables_1_3) (hg : jisN q = true) : q ∈ jNest := List.mem_filter.mpr ⟨List.mem_append_right _ (List.mem_append_right _ (List.mem_append_right _ (List.mem_append_left _ h))), hg⟩
theorem jinS3 {x : MethodName × Nat} (i : Nat) (hi : lw_privs_3[i]? = some x) : Cond.selects x.1.cls x.1 x.1 ∈ jTbl := by
  have h := List.mem_of_getElem? hi
  refine List.mem_filter.mpr ⟨List.mem_append_left _ (List.mem_map.mpr ⟨x, List.mem_append_right _ (List.mem_append_right _ (List.mem_append_left _ h)), rfl⟩), rfl⟩
theorem jinT4 {q : Cond} (h : q ∈ tables_1_4) (hg : goodWord q = true) : q ∈ jTbl := List.mem_filter.mpr ⟨List.mem_append_right _ (List.mem_append_right _ (List.mem_append_right _ (List.mem_append_right _ (List.mem_append_left _ h)))), hg⟩
theorem jinN4 {q : Cond} (h : q ∈ tables_1_4) (hg : jisN q = true) : q ∈ jNest := List.mem_filter.mpr ⟨List.mem_append_right _ (List.mem_append_right _ (List.mem_append_right _ (List.mem_append_right _ (List.mem_append_left _ h)))), hg⟩
theorem jinS4 {x : MethodName × Nat} (i : Nat) (hi : lw_privs_4[i]? = some x) : Cond.selects x.1.cls x.1 x.1 ∈ jTbl := by
  have h := List.mem_of_getElem? hi
  refine List.mem_filter.mpr ⟨List.mem_append_left _ (List.mem_map.mpr ⟨x, List.mem_append_right _ (List.mem_append_right _ (List.mem_append_right _ (List.mem_append_left _ h))), rfl⟩), rfl⟩
theorem jinT5 {q : Cond} (h : q ∈ tables_1_5) (hg : goodWord q = true) : q ∈ jTbl := List.mem_filter.mpr ⟨List.mem_append_right _ (List.mem_append_right _ (List.mem_append_right _ (List.mem_append_right _ (List.mem_append_right _ (List.mem_append_left _ h))))), hg⟩
theorem jinN5 {q : Cond} (h : q ∈ tables_1_5) (hg : jisN q = true) : q ∈ jNest := List.mem_filter.mpr ⟨List.mem_append_right _ (List.mem_append_right _ (List.mem_append_right _ (List.mem_append_right _ (List.mem_append_right _ (List.mem_append_left _ h))))), hg⟩
theorem jinS5 {x : MethodName × Nat} (i : Nat) (hi : lw_privs_5[i]? = some x) : Cond.selects x.1.cls x.1 x.1 ∈ jTbl := by
  have h := List.mem_of_getElem? hi
  refine List.mem_filter.mpr ⟨List.mem_append_left _ (List.mem_map.mpr ⟨x, List.mem_append_right _ (List.mem_append_right _ (List.mem_append_right _ (List.mem_append_right _ (List.mem_append_left _ h)))), rfl⟩), rfl⟩
theorem jinT6 {q : Cond} (h : q ∈ tables_1_6) (hg : goodWord q = true) : q ∈ jTbl := List.mem_filter.mpr ⟨List.mem_append_right _ (List.mem_append_right _ (List.mem_append_right _ (List.mem_append_right _ (List.mem_append_right _ (List.mem_append_right _ (List.mem_append_left _ h)))))), hg⟩
theorem jinN6 {q : Cond} (h : q ∈ tables_1_6) (hg : jisN q = true) : q ∈ jNest := List.mem_filter.mpr ⟨List.mem_append_right _ (List.mem_append_right _ (List.mem_append_right _ (List.mem_append_right _ (List.mem_append_right _ (List.mem_append_right _ (List.mem_append_left _ h)))))), hg⟩
theorem jinS6 {x : MethodName × Nat} (i : Nat) (hi : lw_privs_6[i]? = some x) : Cond.selects x.1.cls x.1 x.1 ∈ jTbl := by
  have h := List.mem_of_getElem? hi
  refine List.mem_filter.mpr ⟨List.mem_append_left _ (List.mem_map.mpr ⟨x, List.mem_append_right _ (List.mem_append_right _ (List.mem_append_right _ (List.mem_append_right _ (List.mem_append_right _ (List.mem_append_left _ h))))), rfl⟩), rfl⟩
theorem jinT7 {q : Cond} (h : q ∈ tables_1_7) (hg : goodWord q = true) : q ∈ jTbl := List.mem_filter.mpr ⟨List.mem_append_right _ (List.mem_append_right _ (List.mem_append_right _ (List.mem_append_right _ (List.mem_append_right _ (List.mem_append_right _ (List.mem_append_right _ (List.mem_append_left _ h))))))), hg⟩
theorem jinN7 {q : Cond} (h : q ∈ tables_1_7) (hg : jisN q = true) : q ∈ jNest := List.mem_filter.mpr ⟨List.mem_append_right _ (List.mem_append_right _ (List.mem_append_right _ (List.mem_append_right _ (List.mem_append_right _ (List.mem_append_right _ (List.mem_append_right _ (List.mem_append_left _ h))))))), hg⟩
theorem jinS7 {x : MethodName × Nat} (i : Nat) (hi : lw_privs_7[i]? = some x) : Cond.selects x.1.cls x.1 x.1 ∈ jTbl := by
  have h := List.mem_of_getElem? hi
  refine List.mem_filter.mpr ⟨List.mem_append_left _ (List.mem_map.mpr ⟨x, List.mem_append_right _ (List.mem_append_right _ (List.mem_append_right _ (List.mem_append_right _ (List.mem_append_right _ (List.mem_append_right _ (List.mem_append_left _ h)))))), rfl⟩), rfl⟩
theorem jinT8 {q : Cond} (h : q ∈ tables_1_8) (hg : goodWord q = true) : q ∈ jTbl := List.mem_filter.mpr ⟨List.mem_append_right _ (List.mem_append_right _ (List.mem_append_right _ (List.mem_append_right _ (List.mem_append_right _ (List.mem_append_right _ (List.mem_append_right _ (List.mem_append_right _ (List.mem_append_left _ h)))))))), hg⟩
theorem jinN8 {q : Cond} (h : q ∈ tables_1_8) (hg : jisN q = true) : q ∈ jNest := List.mem_filter.mpr ⟨List.mem_append_right _ (List.mem_append_right _ (List.mem_append_right _ (List.mem_append_right _ (List.mem_append_right _ (List.mem_append_right _ (List.mem_append_right _ (List.mem_append_right _ (List.mem_append_left _ h)))))))), hg⟩
theorem jinS8 {x : MethodName × Nat} (i : Nat) (hi : lw_privs_8[i]? = some x) : Cond.selects x.1.cls x.1 x.1 ∈ jTbl := by
  have h := List.mem_of_getElem? hi
  refine List.mem_filter.mpr ⟨List.mem_append_left _ (List.mem_map.mpr ⟨x, List.mem_append_right _ (List.mem_append_right _ (List.mem_append_right _ (List.mem_append_right _ (List.mem_append_right _ (List.mem_append_right _ (List.mem_append_right _ (List.mem_append_left _ h))))))), rfl⟩), rfl⟩
theorem jinT9 {q : Cond} (h : q ∈ tables_1_9) (hg : goodWord q = true) : q ∈ jTbl := List.mem_filter.mpr ⟨List.mem_append_right _ (List.mem_append_right _ (List.mem_append_right _ (List.mem_append_right _ (List.mem_append_right _ (List.mem_append_right _ (List.mem_append_right _ (List.mem_append_right _ (List.mem_append_right _ (List.mem_append_left _ h))))))))), hg⟩
theorem jinN9 {q : Cond} (h : q ∈ tables_1_9) (hg : jisN q = true) : q ∈ jNest := List.mem_filter.mpr ⟨List.mem_append_right _ (List.mem_append_right _ (List.mem_append_right _ (List.mem_append_right _ (List.mem_append_right _ (List.mem_append_right _ (List.mem_append_right _ (List.mem_append_right _ (List.mem_append_right _ (List.mem_append_left _ h))))))))), hg⟩
theorem jinS9 {x : MethodName × Nat} (i : Nat) (hi : lw_privs_9[i]? = some x) : Cond.selects x.1.cls x.1 x.1 ∈ jTbl := by
  have h := List.mem_of_getElem? hi
  refine List.mem_filter.mpr ⟨List.mem_append_left _ (List.mem_map.mpr ⟨x, List.mem_append_right _ (List.mem_append_right _ (List.mem_append_right _ (List.mem_append_right _ (List.mem_append_right _ (List.mem_append_right _ (List.mem_append_right _ (List.mem_append_right _ (List.mem_append_left _ h)))))))), rfl⟩), rfl⟩
theorem jinT10 {q : Cond} (h : q ∈ tables_1_10) (hg : goodWord q = true) : q ∈ jTbl := List.mem_filter.mpr ⟨List.mem_append_right _ (List.mem_append_right _ (List.mem_append_right _ (List.mem_append_right _ (List.mem_append_right _ (List.mem_append_right _ (List.mem_append_right _ (List.mem_append_right _ (List.mem_append_right _ (List.mem_append_right _ (h)))))))))), hg⟩
theorem jinN10 {q : Cond} (h : q ∈ tables_1_10) (hg : jisN q = true) : q ∈ jNest := List.mem_filter.mpr ⟨List.mem_append_right _ (List.mem_append_right _ (List.mem_append_right _ (List.mem_append_right _ (List.mem_append_right _ (List.mem_append_right _ (List.mem_append_right _ (List.mem_append_right _ (List.mem_append_right _ (List.mem_append_right _ (h)))))))))), hg⟩
theorem jinS10 {x : MethodName × Nat} (i : Nat) (hi : lw_privs_10[i]? = some x) : Cond.selects x.1.cls x.1 x.1 ∈ jTbl := by
  have h := List.mem_of_getElem? hi
  refine List.mem_filter.mpr ⟨List.mem_append_left _ (List.mem_map.mpr ⟨x, List.mem_append_right _ (List.mem_append_right _ (List.mem_append_right _ (List.mem_append_right _ (List.mem_append_right _ (List.mem_append_right _ (List.mem_append_right _ (List.mem_append_right _ (List.mem_append_right _ (h))))))))), rfl⟩), rfl⟩
def iX0_init : jY := (yX0_init, cX0_init, 1, none, 1, [(0, 10), (0, 8), (2, 8), (0, 10), (0, 2816)])
def iX0_add : jY := (yX0_add, cX0_add, 2, (some .int), 0, [])
def iX0_setAway : jY := (yX0_setAway, cX0_setAway, 3, none, 0, [])
def iX0_setWeight : jY := (yX0_setWeight, cX0_setWeight, 3, none, 0, [])
def iX0_solve : jY := (yX0_solve, cX0_solve, 5, none, 3, [])
def iX0_canDrive : jY := (yX0_canDrive, cX0_canDrive, 4, (some .boolean), 0, [])
def iX0_leastFrom : jY := (yX0_leastFrom, cX0_leastFrom, 6, (some .int), 1, [])
def iX0_listDrivers : jY := (yX0_listDrivers, cX0_listDrivers, 4, none, 2, [])
def iX0_firstDriver : jY := (yX0_firstDriver, cX0_firstDriver, 4, (some .int), 1, [])
def iX0_leastLeft : jY := (yX0_leastLeft, cX0_leastLeft, 1, (some .int), 0, [])
def iX1_init : jY := (yX1_init, cX1_init, 1, none, 0, [(0, 100), (0, 100), (0, 100), (0, 100), (0, 20), (0, 100), (0, 100)])
def iX1_add : jY := (yX1_add, cX1_add, 6, (some .int), 0, [])
def iX1_addChild : jY := (yX1_addChild, cX1_addChild, 6, (some .int), 1, [])
def iX1_addVoid : jY := (yX1_addVoid, cX1_addVoid, 3, (some .int), 1, [])
def iX1_isKnown : jY := (yX1_isKnown, cX1_isKnown, 4, (some .boolean), 0, [])
def iX1_childrenKnown : jY := (yX1_childrenKnown, cX1_childrenKnown, 3, (some .int), 0, [])
def iX1_homeOf : jY := (yX1_homeOf, cX1_homeOf, 5, (some .int), 2, [])
def iX1_latestMove : jY := (yX1_latestMove, cX1_latestMove, 7, (some .int), 1, [])
def iX1_areAlikeTaps : jY := (yX1_areAlikeTaps, cX1_areAlikeTaps, 4, (some .boolean), 1, [])
def iX2_init : jY := (yX2_init, cX2_init, 1, none, 0, [(0, 3), (0, 18), (0, 18), (0, 18), (0, 3), (0, 3), (0, 3), (0, 486), (0, 18), (0, 18), (0, 18), (0, 18), (0, 19)])
def iX2_clear : jY := (yX2_clear, cX2_clear, 3, none, 0, [])
def iX2_addRoutes : jY := (yX2_addRoutes, cX2_addRoutes, 7, none, 2, [])
def iX2_measure : jY := (yX2_measure, cX2_measure, 5, none, 2, [])
def iX2_noteFollower : jY := (yX2_noteFollower, cX2_noteFollower, 8, none, 0, [])
def iX2_busesUnshifted : jY := (yX2_busesUnshifted, cX2_busesUnshifted, 1, (some .int), 3, [])
def iX2_findShifts : jY := (yX2_findShifts, cX2_findShifts, 5, none, 3, [])
def iX2_putBells : jY := (yX2_putBells, cX2_putBells, 2, none, 0, [])
def iX2_keepPuts : jY := (yX2_keepPuts, cX2_keepPuts, 2, none, 0, [])
def iX2_putsExistingAlone : jY := (yX2_putsExistingAlone, cX2_putsExistingAlone, 2, (some .boolean), 0, [])
def iX2_fewestBuses : jY := (yX2_fewestBuses, cX2_fewestBuses, 3, (some .int), 2, [])
def iX2_followersOf : jY := (yX2_followersOf, cX2_followersOf, 5, (some .int), 0, [])
def iX2_findFollower : jY := (yX2_findFollower, cX2_findFollower, 8, (some .boolean), 1, [])
def iX2_joinBack : jY := (yX2_joinBack, cX2_joinBack, 6, none, 0, [])
def iX3_init : jY := (yX3_init, cX3_init, 1, none, 0, [(0, 6), (0, 64), (2, 64), (0, 6), (0, 6), (0, 6), (0, 6), (0, 36), (0, 384), (0, 64), (0, 64), (0, 64), (0, 64)])
def iX3_make : jY := (yX3_make, cX3_make, 4, none, 3, [])
def iX3_gatherRiders : jY := (yX3_gatherRiders, cX3_gatherRiders, 7, none, 1, [])
def iX3_gatherParted : jY := (yX3_gatherParted, cX3_gatherParted, 6, none, 1, [])
def iX3_riderStop : jY := (yX3_riderStop, cX3_riderStop, 3, (some .int), 0, [])
def iX3_measure : jY := (yX3_measure, cX3_measure, 7, none, 2, [])
def iX3_findRoute : jY := (yX3_findRoute, cX3_findRoute, 4, none, 1, [])
def iX3_leastBehind : jY := (yX3_leastBehind, cX3_leastBehind, 5, (some .int), 0, [])
def iX3_stopInRoute : jY := (yX3_stopInRoute, cX3_stopInRoute, 7, (some .int), 1, [])
def iX3_firstWith : jY := (yX3_firstWith, cX3_firstWith, 6, (some .int), 0, [])
def iX3_canBeGood : jY := (yX3_canBeGood, cX3_canBeGood, 5, (some .boolean), 0, [])
def iX3_payOf : jY := (yX3_payOf, cX3_payOf, 4, (some .int), 0, [])
def iX3_choose : jY := (yX3_choose, cX3_choose, 8, none, 1, [])
def iX3_weighTaxi : jY := (yX3_weighTaxi, cX3_weighTaxi, 5, none, 0, [])
def iX3_weighRoute : jY := (yX3_weighRoute, cX3_weighRoute, 7, none, 0, [])
def iX3_listRoutes : jY := (yX3_listRoutes, cX3_listRoutes, 4, none, 1, [])
def iX3_hasPlan : jY := (yX3_hasPlan, cX3_hasPlan, 1, (some .boolean), 0, [])
def iX3_leastPay : jY := (yX3_leastPay, cX3_leastPay, 1, (some .int), 0, [])
def iX3_fewestRoutes : jY := (yX3_fewestRoutes, cX3_fewestRoutes, 1, (some .int), 0, [])
def iX4_init : jY := (yX4_init, cX4_init, 1, none, 5, [(16, 6), (0, 2000), (0, 401), (0, 401), (1, 401), (1, 22), (1, 21), (0, 21), (0, 400)])
def iX4_readTape : jY := (yX4_readTape, cX4_readTape, 3, none, 5, [])
def iX4_readTell : jY := (yX4_readTell, cX4_readTell, 2, none, 4, [])
def iX4_readPlace : jY := (yX4_readPlace, cX4_readPlace, 3, none, 2, [])
def iX4_readWay : jY := (yX4_readWay, cX4_readWay, 8, none, 2, [])
def iX4_readSchool : jY := (yX4_readSchool, cX4_readSchool, 5, none, 2, [])
def iX4_readStop : jY := (yX4_readStop, cX4_readStop, 3, none, 2, [])
def iX4_readRule : jY := (yX4_readRule, cX4_readRule, 4, none, 2, [])
def iX4_readBus : jY := (yX4_readBus, cX4_readBus, 3, none, 2, [])
def iX4_readRight : jY := (yX4_readRight, cX4_readRight, 4, none, 3, [])
def iX4_beginLiteral : jY := (yX4_beginLiteral, cX4_beginLiteral, 1, none, 0, [])
def iX4_readOperand : jY := (yX4_readOperand, cX4_readOperand, 3, none, 2, [])
def iX4_readOperator : jY := (yX4_readOperator, cX4_readOperator, 3, (some .boolean), 2, [])
def iX4_mayFollowOperand : jY := (yX4_mayFollowOperand, cX4_mayFollowOperand, 2, (some .boolean), 1, [])
def iX4_isComparison : jY := (yX4_isComparison, cX4_isComparison, 1, (some .boolean), 0, [])
def iX4_strengthOf : jY := (yX4_strengthOf, cX4_strengthOf, 1, (some .int), 0, [])
def iX4_await : jY := (yX4_await, cX4_await, 2, none, 0, [])
def iX4_settle : jY := (yX4_settle, cX4_settle, 3, none, 1, [])
def iX4_kindAhead : jY := (yX4_kindAhead, cX4_kindAhead, 1, (some .int), 0, [])
def iX4_intAt : jY := (yX4_intAt, cX4_intAt, 2, (some .int), 0, [])
def iX4_take : jY := (yX4_take, cX4_take, 2, none, 1, [])
def iX4_needRoom : jY := (yX4_needRoom, cX4_needRoom, 3, none, 1, [])
def iX4_fail : jY := (yX4_fail, cX4_fail, 2, none, 0, [])
def iX4_wrongIf : jY := (yX4_wrongIf, cX4_wrongIf, 3, none, 1, [])
def iX4_failLate : jY := (yX4_failLate, cX4_failLate, 3, none, 0, [])
def iX4_tellName : jY := (yX4_tellName, cX4_tellName, 3, none, 1, [])
def iX4_placeNamed : jY := (yX4_placeNamed, cX4_placeNamed, 4, (some .int), 1, [])
def iX4_indexOfName : jY := (yX4_indexOfName, cX4_indexOfName, 3, (some .int), 0, [])
def iX5_init : jY := (yX5_init, cX5_init, 1, none, 0, [(0, 12), (0, 30), (0, 30), (0, 30), (0, 12)])
def iX5_add : jY := (yX5_add, cX5_add, 4, (some .int), 0, [])
def iX5_spread : jY := (yX5_spread, cX5_spread, 6, none, 1, [])
def iX5_bestFirst : jY := (yX5_bestFirst, cX5_bestFirst, 8, (some .int), 2, [])
def iX6_init : jY := (yX6_init, cX6_init, 4, none, 4, [(0, 2000), (0, 401), (0, 401), (1, 401), (1, 22)])
def iX6_append : jY := (yX6_append, cX6_append, 3, none, 0, [])
def iX6_scan : jY := (yX6_scan, cX6_scan, 3, none, 3, [])
def iX6_byteAt : jY := (yX6_byteAt, cX6_byteAt, 2, (some .int), 0, [])
def iX6_skipBlanks : jY := (yX6_skipBlanks, cX6_skipBlanks, 3, (some .int), 1, [])
def iX6_scanToken : jY := (yX6_scanToken, cX6_scanToken, 4, (some .int), 2, [])
def iX6_scanWord : jY := (yX6_scanWord, cX6_scanWord, 4, (some .int), 1, [])
def iX6_scanInt : jY := (yX6_scanInt, cX6_scanInt, 4, (some .int), 1, [])
def iX6_kindOfWord : jY := (yX6_kindOfWord, cX6_kindOfWord, 4, (some .int), 0, [])
def iX6_kindOfSign : jY := (yX6_kindOfSign, cX6_kindOfSign, 2, (some .int), 0, [])
def iX6_withLetter : jY := (yX6_withLetter, cX6_withLetter, 3, (some .long), 0, [])
def iX6_isBlank : jY := (yX6_isBlank, cX6_isBlank, 1, (some .boolean), 0, [])
def iX6_isLetter : jY := (yX6_isLetter, cX6_isLetter, 1, (some .boolean), 0, [])
def iX6_isDigit : jY := (yX6_isDigit, cX6_isDigit, 1, (some .boolean), 0, [])
def iX7_init : jY := (yX7_init, cX7_init, 1, none, 0, [(0, 1024), (0, 20), (0, 20), (0, 20), (0, 1024), (2, 1024)])
def iX7_add : jY := (yX7_add, cX7_add, 4, (some .int), 0, [])
def iX7_solve : jY := (yX7_solve, cX7_solve, 5, none, 2, [])
def iX7_markReached : jY := (yX7_markReached, cX7_markReached, 5, none, 1, [])
def iX7_fits : jY := (yX7_fits, cX7_fits, 4, (some .boolean), 0, [])
def iX7_choose : jY := (yX7_choose, cX7_choose, 4, none, 1, [])
def iX7_bidOn : jY := (yX7_bidOn, cX7_bidOn, 6, (some .int), 0, [])
def iX8_init : jY := (yX8_init, cX8_init, 1, none, 0, [(0, 24), (0, 24), (0, 24), (0, 24), (0, 3), (0, 3), (0, 6), (0, 8), (0, 400), (0, 7), (0, 32)])
def iX8_clear : jY := (yX8_clear, cX8_clear, 1, none, 0, [])
def iX8_addWay : jY := (yX8_addWay, cX8_addWay, 6, none, 0, [])
def iX8_addSchool : jY := (yX8_addSchool, cX8_addSchool, 3, none, 0, [])
def iX8_addStop : jY := (yX8_addStop, cX8_addStop, 2, none, 0, [])
def iX8_addCode : jY := (yX8_addCode, cX8_addCode, 2, none, 0, [])
def iX8_endRight : jY := (yX8_endRight, cX8_endRight, 1, none, 0, [])
def iX8_firstRight : jY := (yX8_firstRight, cX8_firstRight, 4, (some .int), 2, [])
def iX8_holds : jY := (yX8_holds, cX8_holds, 7, (some .boolean), 1, [])
def iX8_combine : jY := (yX8_combine, cX8_combine, 3, (some .int), 0, [])
def iX9_init : jY := (yX9_init, cX9_init, 2, none, 1, [(3, 3), (11, 9), (0, 100), (0, 100), (0, 100), (0, 100), (0, 20), (0, 100), (0, 100), (0, 20), (0, 20), (0, 3), (0, 3), (0, 432), (0, 5), (18, 19), (0, 24), (0, 24), (0, 24), (0, 24), (0, 3), (0, 3), (0, 6), (0, 8), (0, 400), (0, 7), (0, 32), (18, 19), (0, 24), (0, 24), (0, 24), (0, 24), (0, 3), (0, 3), (0, 6), (0, 8), (0, 400), (0, 7), (0, 32), (18, 19), (0, 24), (0, 24), (0, 24), (0, 24), (0, 3), (0, 3), (0, 6), (0, 8), (0, 400), (0, 7), (0, 32)])
def iX9_turn : jY := (yX9_turn, cX9_turn, 4, none, 2, [])
def iX9_findUsableWays : jY := (yX9_findUsableWays, cX9_findUsableWays, 3, none, 1, [])
def iX9_sumOf : jY := (yX9_sumOf, cX9_sumOf, 4, (some .int), 1, [])
def iX9_findSums : jY := (yX9_findSums, cX9_findSums, 11, none, 0, [])
def iX9_placeInRow : jY := (yX9_placeInRow, cX9_placeInRow, 7, (some .int), 3, [])
def iX9_nextPlace : jY := (yX9_nextPlace, cX9_nextPlace, 9, (some .int), 2, [])
def iX9_otherEnd : jY := (yX9_otherEnd, cX9_otherEnd, 3, (some .int), 0, [])
def iX9_judgeAll : jY := (yX9_judgeAll, cX9_judgeAll, 2, none, 4, [])
def iX9_judge : jY := (yX9_judge, cX9_judge, 6, none, 3, [])
def iX9_orNotReached : jY := (yX9_orNotReached, cX9_orNotReached, 1, (some .int), 0, [])
def iX9_nearestStop : jY := (yX9_nearestStop, cX9_nearestStop, 6, (some .int), 2, [])
def iX10_init : jY := (yX10_init, cX10_init, 2, none, 6, [(14, 15), (16, 6), (0, 2000), (0, 401), (0, 401), (1, 401), (1, 22), (1, 21), (0, 21), (0, 400), (19, 15), (3, 3), (11, 9), (0, 100), (0, 100), (0, 100), (0, 100), (0, 20), (0, 100), (0, 100), (0, 20), (0, 20), (0, 3), (0, 3), (0, 432), (0, 5), (18, 19), (0, 24), (0, 24), (0, 24), (0, 24), (0, 3), (0, 3), (0, 6), (0, 8), (0, 400), (0, 7), (0, 32), (18, 19), (0, 24), (0, 24), (0, 24), (0, 24), (0, 3), (0, 3), (0, 6), (0, 8), (0, 400), (0, 7), (0, 32), (18, 19), (0, 24), (0, 24), (0, 24), (0, 24), (0, 3), (0, 3), (0, 6), (0, 8), (0, 400), (0, 7), (0, 32), (4, 3), (13, 18), (0, 6), (0, 64), (2, 64), (0, 6), (0, 6), (0, 6), (0, 6), (0, 36), (0, 384), (0, 64), (0, 64), (0, 64), (0, 64), (13, 18), (0, 6), (0, 64), (2, 64), (0, 6), (0, 6), (0, 6), (0, 6), (0, 36), (0, 384), (0, 64), (0, 64), (0, 64), (0, 64), (13, 18), (0, 6), (0, 64), (2, 64), (0, 6), (0, 6), (0, 6), (0, 6), (0, 36), (0, 384), (0, 64), (0, 64), (0, 64), (0, 64), (12, 18), (0, 3), (0, 18), (0, 18), (0, 18), (0, 3), (0, 3), (0, 3), (0, 486), (0, 18), (0, 18), (0, 18), (0, 18), (0, 19), (17, 9), (0, 1024), (0, 20), (0, 20), (0, 20), (0, 1024), (2, 1024), (10, 7), (0, 10), (0, 8), (2, 8), (0, 10), (0, 2816), (15, 6), (0, 12), (0, 30), (0, 30), (0, 30), (0, 12)])
def iX10_feed : jY := (yX10_feed, cX10_feed, 6, (some .int), 1, [])
def iX10_back : jY := (yX10_back, cX10_back, 2, (some .int), 0, [])
def iX10_read : jY := (yX10_read, cX10_read, 3, (some .int), 6, [])
def iX10_place : jY := (yX10_place, cX10_place, 1, (some .int), 0, [])
def iX10_child : jY := (yX10_child, cX10_child, 5, (some .int), 2, [])
def iX10_move : jY := (yX10_move, cX10_move, 5, (some .int), 2, [])
def iX10_shut : jY := (yX10_shut, cX10_shut, 4, (some .int), 2, [])
def iX10_part : jY := (yX10_part, cX10_part, 3, (some .int), 1, [])
def iX10_tap : jY := (yX10_tap, cX10_tap, 5, (some .int), 2, [])
def iX10_annul : jY := (yX10_annul, cX10_annul, 2, (some .int), 2, [])
def iX10_force : jY := (yX10_force, cX10_force, 2, (some .int), 3, [])
def iX10_home : jY := (yX10_home, cX10_home, 4, (some .int), 3, [])
def iX10_dist : jY := (yX10_dist, cX10_dist, 7, (some .int), 4, [])
def iX10_row : jY := (yX10_row, cX10_row, 7, (some .int), 4, [])
def iX10_right : jY := (yX10_right, cX10_right, 4, (some .int), 4, [])
def iX10_altered : jY := (yX10_altered, cX10_altered, 5, (some .int), 6, [])
def iX10_stop : jY := (yX10_stop, cX10_stop, 4, (some .int), 4, [])
def iX10_load : jY := (yX10_load, cX10_load, 5, (some .int), 6, [])
def iX10_route : jY := (yX10_route, cX10_route, 6, (some .int), 6, [])
def iX10_routeStop : jY := (yX10_routeStop, cX10_routeStop, 6, (some .int), 6, [])
def iX10_good : jY := (yX10_good, cX10_good, 5, (some .int), 6, [])
def iX10_pay : jY := (yX10_pay, cX10_pay, 4, (some .int), 6, [])
def iX10_routes : jY := (yX10_routes, cX10_routes, 4, (some .int), 6, [])
def iX10_routeSet : jY := (yX10_routeSet, cX10_routeSet, 5, (some .int), 6, [])
def iX10_taxis : jY := (yX10_taxis, cX10_taxis, 4, (some .int), 6, [])
def iX10_fewest : jY := (yX10_fewest, cX10_fewest, 4, (some .int), 6, [])
def iX10_fleet : jY := (yX10_fleet, cX10_fleet, 3, (some .int), 6, [])
def iX10_shifted : jY := (yX10_shifted, cX10_shifted, 3, (some .int), 6, [])
def iX10_shift : jY := (yX10_shift, cX10_shift, 4, (some .int), 6, [])
def iX10_bid : jY := (yX10_bid, cX10_bid, 4, (some .int), 1, [])
def iX10_award : jY := (yX10_award, cX10_award, 4, (some .int), 3, [])
def iX10_awarded : jY := (yX10_awarded, cX10_awarded, 4, (some .int), 3, [])
def iX10_driver : jY := (yX10_driver, cX10_driver, 2, (some .int), 1, [])
def iX10_leave : jY := (yX10_leave, cX10_leave, 3, (some .boolean), 1, [])
def iX10_weigh : jY := (yX10_weigh, cX10_weigh, 3, (some .boolean), 1, [])
def iX10_cover : jY := (yX10_cover, cX10_cover, 2, (some .int), 4, [])
def iX10_drives : jY := (yX10_drives, cX10_drives, 3, (some .int), 4, [])
def iX10_call : jY := (yX10_call, cX10_call, 4, (some .int), 1, [])
def iX10_told : jY := (yX10_told, cX10_told, 3, (some .int), 2, [])
def iX10_soonest : jY := (yX10_soonest, cX10_soonest, 1, (some .int), 3, [])
def iX10_lent : jY := (yX10_lent, cX10_lent, 2, (some .int), 5, [])
def iX10_lentAt : jY := (yX10_lentAt, cX10_lentAt, 4, (some .int), 5, [])
def iX10_count : jY := (yX10_count, cX10_count, 2, (some .int), 2, [])
def iX10_within : jY := (yX10_within, cX10_within, 2, (some .boolean), 0, [])
def iX10_isDay : jY := (yX10_isDay, cX10_isDay, 1, (some .boolean), 1, [])
def iX10_isRouteCount : jY := (yX10_isRouteCount, cX10_isRouteCount, 1, (some .boolean), 0, [])
def iX10_isFirmOrNone : jY := (yX10_isFirmOrNone, cX10_isFirmOrNone, 1, (some .boolean), 1, [])
def iX10_canMeasure : jY := (yX10_canMeasure, cX10_canMeasure, 3, (some .boolean), 1, [])
def iX10_isKnowledge : jY := (yX10_isKnowledge, cX10_isKnowledge, 2, (some .boolean), 0, [])
def iX10_knowsChild : jY := (yX10_knowsChild, cX10_knowsChild, 3, (some .boolean), 1, [])
def iX10_countInText : jY := (yX10_countInText, cX10_countInText, 3, (some .int), 1, [])
def iX10_inForce : jY := (yX10_inForce, cX10_inForce, 3, (some .int), 2, [])
def iX10_look : jY := (yX10_look, cX10_look, 4, (some .boolean), 3, [])
def iX10_rightHolders : jY := (yX10_rightHolders, cX10_rightHolders, 3, (some .int), 5, [])
def iX10_canPlan : jY := (yX10_canPlan, cX10_canPlan, 4, (some .boolean), 5, [])
def iX10_isStopSet : jY := (yX10_isStopSet, cX10_isStopSet, 2, (some .boolean), 1, [])
def iX10_preparePlan : jY := (yX10_preparePlan, cX10_preparePlan, 2, none, 4, [])
def iX10_gatherFleet : jY := (yX10_gatherFleet, cX10_gatherFleet, 3, (some .boolean), 5, [])
def iX10_findLent : jY := (yX10_findLent, cX10_findLent, 6, (some .int), 4, [])
def iX10_isLent : jY := (yX10_isLent, cX10_isLent, 6, (some .boolean), 2, [])
def iX11_init : jY := (yX11_init, cX11_init, 2, none, 0, [(0, 2000), (0, 2001), (0, 2001), (0, 2001), (1, 2001), (0, 3), (0, 21), (0, 3), (0, 3), (0, 72), (0, 72), (0, 72), (0, 72), (2, 72), (0, 3), (0, 9), (0, 9), (0, 3), (0, 18), (0, 3), (0, 24), (0, 24), (0, 3), (0, 1500), (0, 1500), (0, 3), (2, 600), (0, 600), (0, 600), (0, 600), (0, 600), (0, 600), (1, 30), (0, 30), (0, 100), (0, 100), (0, 100), (0, 100), (0, 100), (0, 20), (0, 20), (0, 20), (0, 20), (0, 8), (2, 8), (0, 10), (0, 30), (0, 30), (0, 30), (0, 500), (2, 24), (0, 432), (0, 5), (0, 500), (2, 20), (0, 6), (0, 6), (0, 64), (0, 384), (2, 64), (0, 64), (0, 20), (0, 6), (0, 64), (0, 64), (0, 6), (0, 18), (0, 18), (0, 18), (0, 3), (0, 18), (2, 18), (0, 18), (0, 18), (0, 3), (0, 1024), (0, 2816), (0, 12)])
def iX11_feed : jY := (yX11_feed, cX11_feed, 6, (some .int), 1, [])
def iX11_typed : jY := (yX11_typed, cX11_typed, 3, none, 0, [])
def iX11_back : jY := (yX11_back, cX11_back, 2, (some .int), 0, [])
def iX11_byteAt : jY := (yX11_byteAt, cX11_byteAt, 2, (some .int), 0, [])
def iX11_isLetter : jY := (yX11_isLetter, cX11_isLetter, 2, (some .boolean), 1, [])
def iX11_isDigit : jY := (yX11_isDigit, cX11_isDigit, 2, (some .boolean), 1, [])
def iX11_token : jY := (yX11_token, cX11_token, 4, none, 0, [])
def iX11_wordOf : jY := (yX11_wordOf, cX11_wordOf, 2, (some .int), 0, [])
def iX11_signAt : jY := (yX11_signAt, cX11_signAt, 4, (some .int), 1, [])
def iX11_scan : jY := (yX11_scan, cX11_scan, 6, (some .int), 2, [])
def iX11_scanAll : jY := (yX11_scanAll, cX11_scanAll, 4, none, 3, [])
def iX11_wrong : jY := (yX11_wrong, cX11_wrong, 2, (some .boolean), 0, [])
def iX11_tells : jY := (yX11_tells, cX11_tells, 4, none, 0, [])
def iX11_pass : jY := (yX11_pass, cX11_pass, 1, (some .boolean), 1, [])
def iX11_isSign : jY := (yX11_isSign, cX11_isSign, 2, (some .boolean), 0, [])
def iX11_isWord : jY := (yX11_isWord, cX11_isWord, 2, (some .boolean), 0, [])
def iX11_takes : jY := (yX11_takes, cX11_takes, 2, (some .boolean), 2, [])
def iX11_takesInt : jY := (yX11_takesInt, cX11_takesInt, 4, (some .boolean), 3, [])
def iX11_emit : jY := (yX11_emit, cX11_emit, 3, none, 0, [])
def iX11_rank : jY := (yX11_rank, cX11_rank, 1, (some .int), 0, [])
def iX11_reduce : jY := (yX11_reduce, cX11_reduce, 3, none, 1, [])
def iX11_await : jY := (yX11_await, cX11_await, 2, none, 0, [])
def iX11_variableOf : jY := (yX11_variableOf, cX11_variableOf, 1, (some .int), 0, [])
def iX11_expr : jY := (yX11_expr, cX11_expr, 5, (some .boolean), 2, [])
def iX11_cond : jY := (yX11_cond, cX11_cond, 6, (some .boolean), 3, [])
def iX11_begin : jY := (yX11_begin, cX11_begin, 2, none, 0, [])
def iX11_placeAt : jY := (yX11_placeAt, cX11_placeAt, 3, (some .int), 1, [])
def iX11_names : jY := (yX11_names, cX11_names, 4, (some .boolean), 3, [])
def iX11_tellWay : jY := (yX11_tellWay, cX11_tellWay, 3, (some .boolean), 4, [])
def iX11_tellSchool : jY := (yX11_tellSchool, cX11_tellSchool, 3, (some .boolean), 4, [])
def iX11_tellStop : jY := (yX11_tellStop, cX11_tellStop, 3, (some .boolean), 4, [])
def iX11_tellRight : jY := (yX11_tellRight, cX11_tellRight, 2, (some .boolean), 4, [])
def iX11_tellNumber : jY := (yX11_tellNumber, cX11_tellNumber, 3, (some .boolean), 4, [])
def iX11_tell : jY := (yX11_tell, cX11_tell, 2, (some .boolean), 5, [])
def iX11_parses : jY := (yX11_parses, cX11_parses, 1, (some .boolean), 6, [])
def iX11_read : jY := (yX11_read, cX11_read, 2, (some .int), 7, [])
def iX11_place : jY := (yX11_place, cX11_place, 1, (some .int), 0, [])
def iX11_fact : jY := (yX11_fact, cX11_fact, 6, (some .int), 0, [])
def iX11_isIn : jY := (yX11_isIn, cX11_isIn, 3, (some .boolean), 0, [])
def iX11_isChild : jY := (yX11_isChild, cX11_isChild, 2, (some .boolean), 0, [])
def iX11_child : jY := (yX11_child, cX11_child, 5, (some .int), 1, [])
def iX11_move : jY := (yX11_move, cX11_move, 5, (some .int), 1, [])
def iX11_shut : jY := (yX11_shut, cX11_shut, 4, (some .int), 1, [])
def iX11_part : jY := (yX11_part, cX11_part, 3, (some .int), 1, [])
def iX11_tap : jY := (yX11_tap, cX11_tap, 5, (some .int), 1, [])
def iX11_annul : jY := (yX11_annul, cX11_annul, 2, (some .int), 1, [])
def iX11_isKnown : jY := (yX11_isKnown, cX11_isKnown, 2, (some .boolean), 0, [])
def iX11_isLive : jY := (yX11_isLive, cX11_isLive, 4, (some .boolean), 0, [])
def iX11_force : jY := (yX11_force, cX11_force, 3, (some .int), 1, [])
def iX11_isKnownChild : jY := (yX11_isKnownChild, cX11_isKnownChild, 3, (some .boolean), 1, [])
def iX11_homeOf : jY := (yX11_homeOf, cX11_homeOf, 6, (some .int), 2, [])
def iX11_lastHome : jY := (yX11_lastHome, cX11_lastHome, 7, (some .int), 1, [])
def iX11_home : jY := (yX11_home, cX11_home, 4, (some .int), 3, [])
def iX11_weightOf : jY := (yX11_weightOf, cX11_weightOf, 3, (some .int), 0, [])
def iX11_isOpen : jY := (yX11_isOpen, cX11_isOpen, 3, (some .boolean), 0, [])
def iX11_lay : jY := (yX11_lay, cX11_lay, 9, none, 2, [])
def iX11_join : jY := (yX11_join, cX11_join, 6, none, 0, [])
def iX11_isDay : jY := (yX11_isDay, cX11_isDay, 3, (some .boolean), 2, [])
def iX11_isDist : jY := (yX11_isDist, cX11_isDist, 6, (some .boolean), 3, [])
def iX11_leastOf : jY := (yX11_leastOf, cX11_leastOf, 4, (some .int), 0, [])
def iX11_dist : jY := (yX11_dist, cX11_dist, 6, (some .int), 4, [])
def iX11_onward : jY := (yX11_onward, cX11_onward, 9, (some .int), 1, [])
def iX11_row : jY := (yX11_row, cX11_row, 9, (some .int), 4, [])
def iX11_sum : jY := (yX11_sum, cX11_sum, 8, (some .int), 0, [])
def iX11_isLit : jY := (yX11_isLit, cX11_isLit, 5, (some .boolean), 1, [])
def iX11_isHeld : jY := (yX11_isHeld, cX11_isHeld, 6, (some .boolean), 2, [])
def iX11_rightOf : jY := (yX11_rightOf, cX11_rightOf, 9, (some .int), 3, [])
def iX11_right : jY := (yX11_right, cX11_right, 4, (some .int), 4, [])
def iX11_altered : jY := (yX11_altered, cX11_altered, 6, (some .int), 4, [])
def iX11_stopOf : jY := (yX11_stopOf, cX11_stopOf, 9, (some .int), 4, [])
def iX11_stop : jY := (yX11_stop, cX11_stop, 4, (some .int), 5, [])
def iX11_riders : jY := (yX11_riders, cX11_riders, 6, none, 5, [])
def iX11_isSchool : jY := (yX11_isSchool, cX11_isSchool, 4, (some .boolean), 3, [])
def iX11_load : jY := (yX11_load, cX11_load, 5, (some .int), 6, [])
def iX11_placeOfStop : jY := (yX11_placeOfStop, cX11_placeOfStop, 2, (some .int), 0, [])
def iX11_placeOfSchool : jY := (yX11_placeOfSchool, cX11_placeOfSchool, 2, (some .int), 0, [])
def iX11_driven : jY := (yX11_driven, cX11_driven, 6, (some .int), 1, [])
def iX11_reorders : jY := (yX11_reorders, cX11_reorders, 6, (some .boolean), 1, [])
def iX11_turn : jY := (yX11_turn, cX11_turn, 4, none, 0, [])
def iX11_manyOf : jY := (yX11_manyOf, cX11_manyOf, 3, (some .int), 0, [])
def iX11_laid : jY := (yX11_laid, cX11_laid, 6, none, 2, [])
def iX11_judge : jY := (yX11_judge, cX11_judge, 7, none, 0, [])
def iX11_allRoutes : jY := (yX11_allRoutes, cX11_allRoutes, 5, none, 6, [])
def iX11_isSet : jY := (yX11_isSet, cX11_isSet, 5, (some .boolean), 4, [])
def iX11_route : jY := (yX11_route, cX11_route, 5, (some .int), 6, [])
def iX11_routeStop : jY := (yX11_routeStop, cX11_routeStop, 7, (some .int), 7, [])
def iX11_good : jY := (yX11_good, cX11_good, 6, (some .int), 7, [])
def iX11_taxi : jY := (yX11_taxi, cX11_taxi, 3, (some .int), 1, [])
def iX11_ridden : jY := (yX11_ridden, cX11_ridden, 3, (some .int), 0, [])
def iX11_firstOf : jY := (yX11_firstOf, cX11_firstOf, 2, (some .int), 0, [])
def iX11_offer : jY := (yX11_offer, cX11_offer, 7, none, 0, [])
def iX11_plans : jY := (yX11_plans, cX11_plans, 5, (some .boolean), 3, [])
def iX11_isBest : jY := (yX11_isBest, cX11_isBest, 5, (some .boolean), 0, [])
def iX11_chosen : jY := (yX11_chosen, cX11_chosen, 4, (some .int), 2, [])
def iX11_planOf : jY := (yX11_planOf, cX11_planOf, 4, (some .int), 7, [])
def iX11_pay : jY := (yX11_pay, cX11_pay, 5, (some .int), 8, [])
def iX11_routes : jY := (yX11_routes, cX11_routes, 5, (some .int), 8, [])
def iX11_routeSet : jY := (yX11_routeSet, cX11_routeSet, 5, (some .int), 8, [])
def iX11_taxis : jY := (yX11_taxis, cX11_taxis, 5, (some .int), 8, [])
def iX11_fewest : jY := (yX11_fewest, cX11_fewest, 9, (some .int), 7, [])
def iX11_collects : jY := (yX11_collects, cX11_collects, 5, (some .boolean), 7, [])
def iX11_bellOf : jY := (yX11_bellOf, cX11_bellOf, 2, (some .int), 0, [])
def iX11_isBehind : jY := (yX11_isBehind, cX11_isBehind, 4, (some .boolean), 1, [])
def iX11_finds : jY := (yX11_finds, cX11_finds, 5, (some .boolean), 2, [])
def iX11_busesOf : jY := (yX11_busesOf, cX11_busesOf, 3, (some .int), 3, [])
def iX11_fleet : jY := (yX11_fleet, cX11_fleet, 4, (some .int), 8, [])
def iX11_plain : jY := (yX11_plain, cX11_plain, 1, (some .int), 0, [])
def iX11_shiftedFleet : jY := (yX11_shiftedFleet, cX11_shiftedFleet, 11, (some .int), 8, [])
def iX11_shifted : jY := (yX11_shifted, cX11_shifted, 3, (some .int), 9, [])
def iX11_shift : jY := (yX11_shift, cX11_shift, 4, (some .int), 9, [])
def iX11_bid : jY := (yX11_bid, cX11_bid, 4, (some .int), 1, [])
def iX11_isBid : jY := (yX11_isBid, cX11_isBid, 4, (some .boolean), 1, [])
def iX11_award : jY := (yX11_award, cX11_award, 7, (some .int), 2, [])
def iX11_awarded : jY := (yX11_awarded, cX11_awarded, 7, (some .int), 3, [])
def iX11_driver : jY := (yX11_driver, cX11_driver, 2, (some .int), 1, [])
def iX11_leave : jY := (yX11_leave, cX11_leave, 3, (some .boolean), 0, [])
def iX11_weigh : jY := (yX11_weigh, cX11_weigh, 3, (some .boolean), 1, [])
def iX11_mayDrive : jY := (yX11_mayDrive, cX11_mayDrive, 4, (some .boolean), 0, [])
def iX11_covers : jY := (yX11_covers, cX11_covers, 7, none, 1, [])
def iX11_cover : jY := (yX11_cover, cX11_cover, 2, (some .int), 2, [])
def iX11_drives : jY := (yX11_drives, cX11_drives, 7, (some .int), 2, [])
def iX11_call : jY := (yX11_call, cX11_call, 4, (some .int), 1, [])
def iX11_snow : jY := (yX11_snow, cX11_snow, 6, none, 0, [])
def iX11_told : jY := (yX11_told, cX11_told, 3, (some .int), 1, [])
def iX11_soonest : jY := (yX11_soonest, cX11_soonest, 8, (some .int), 1, [])
def iX11_isLent : jY := (yX11_isLent, cX11_isLent, 6, (some .boolean), 3, [])
def iX11_lend : jY := (yX11_lend, cX11_lend, 5, none, 4, [])
def iX11_lent : jY := (yX11_lent, cX11_lent, 2, (some .int), 5, [])
def iX11_lentAt : jY := (yX11_lentAt, cX11_lentAt, 4, (some .int), 5, [])
def iX11_count : jY := (yX11_count, cX11_count, 2, (some .int), 1, [])
def iX11_countOf : jY := (yX11_countOf, cX11_countOf, 3, (some .int), 0, [])
def iL_law : jY := (yL_law, cL_law, 4, (some .boolean), 10, [])
def iJ6_bitCount_0f7a4 : jY := (yJ6_bitCount_0f7a4, cJ6_bitCount_0f7a4, 1, (some .int), 0, [])
def iJ7_fill_53178 : jY := (yJ7_fill_53178, cJ7_fill_53178, 4, none, 0, [])
theorem wcX0_init : Cond.code (jyn iX0_init) (jyc iX0_init) (jyl iX0_init) (jyr iX0_init) ∈ jTbl := jinT3 (List.mem_of_getElem? (i := 71) rfl) rfl
theorem wiX0_init : Cond.instanceMethod (jyn iX0_init) ∈ jTbl := jinT3 (List.mem_of_getElem? (i := 70) rfl) rfl
theorem wnX0 : Cond.initialized RX0 ∈ jTbl := jinT1 (List.mem_of_getElem? (i := 14) rfl) rfl
theorem wpX0_init : (jyn iX0_init).cls ≠ "java/lang/invoke/MethodHandle" ∧ (jyn iX0_init).cls ≠ "java/lang/invoke/VarHandle" ∧ (parseMethodDescriptor (jyn iX0_init).desc).map (fun d => d.parameters.length) = some 0 := ⟨by decide +kernel, by decide +kernel, by decide +kernel⟩
theorem wcX0_add : Cond.code (jyn iX0_add) (jyc iX0_add) (jyl iX0_add) (jyr iX0_add) ∈ jTbl := jinT6 (List.mem_of_getElem? (i := 82) rfl) rfl
theorem wiX0_add : Cond.instanceMethod (jyn iX0_add) ∈ jTbl := jinT6 (List.mem_of_getElem? (i := 80) rfl) rfl
theorem wlX0_add : Cond.selects (jyn iX0_add).cls (jyn iX0_add) (jyn iX0_add) ∈ jTbl := jinT6 (List.mem_of_getElem? (i := 81) rfl) rfl
theorem wpX0_add : (jyn iX0_add).cls ≠ "java/lang/invoke/MethodHandle" ∧ (jyn iX0_add).cls ≠ "java/lang/invoke/VarHandle" ∧ (parseMethodDescriptor (jyn iX0_add).desc).map (fun d => d.parameters.length) = some 1 := ⟨by decide +kernel, by decide +kernel, by decide +kernel⟩
theorem wcX0_setAway : Cond.code (jyn iX0_setAway) (jyc iX0_setAway) (jyl iX0_setAway) (jyr iX0_setAway) ∈ jTbl := jinT6 (List.mem_of_getElem? (i := 90) rfl) rfl
theorem wiX0_setAway : Cond.instanceMethod (jyn iX0_setAway) ∈ jTbl := jinT6 (List.mem_of_getElem? (i := 88) rfl) rfl
theorem wlX0_setAway : Cond.selects (jyn iX0_setAway).cls (jyn iX0_setAway) (jyn iX0_setAway) ∈ jTbl := jinT6 (List.mem_of_getElem? (i := 89) rfl) rfl
theorem wpX0_setAway : (jyn iX0_setAway).cls ≠ "java/lang/invoke/MethodHandle" ∧ (jyn iX0_setAway).cls ≠ "java/lang/invoke/VarHandle" ∧ (parseMethodDescriptor (jyn iX0_setAway).desc).map (fun d => d.parameters.length) = some 2 := ⟨by decide +kernel, by decide +kernel, by decide +kernel⟩
theorem wcX0_setWeight : Cond.code (jyn iX0_setWeight) (jyc iX0_setWeight) (jyl iX0_setWeight) (jyr iX0_setWeight) ∈ jTbl := jinT6 (List.mem_of_getElem? (i := 98) rfl) rfl
theorem wiX0_setWeight : Cond.instanceMethod (jyn iX0_setWeight) ∈ jTbl := jinT6 (List.mem_of_getElem? (i := 96) rfl) rfl
theorem wlX0_setWeight : Cond.selects (jyn iX0_setWeight).cls (jyn iX0_setWeight) (jyn iX0_setWeight) ∈ jTbl := jinT6 (List.mem_of_getElem? (i := 97) rfl) rfl
theorem wpX0_setWeight : (jyn iX0_setWeight).cls ≠ "java/lang/invoke/MethodHandle" ∧ (jyn iX0_setWeight).cls ≠ "java/lang/invoke/VarHandle" ∧ (parseMethodDescriptor (jyn iX0_setWeight).desc).map (fun d => d.parameters.length) = some 2 := ⟨by decide +kernel, by decide +kernel, by decide +kernel⟩
theorem wcX0_solve : Cond.code (jyn iX0_solve) (jyc iX0_solve) (jyl iX0_solve) (jyr iX0_solve) ∈ jTbl := jinT6 (List.mem_of_getElem? (i := 106) rfl) rfl
theorem wiX0_solve : Cond.instanceMethod (jyn iX0_solve) ∈ jTbl := jinT6 (List.mem_of_getElem? (i := 104) rfl) rfl
theorem wlX0_solve : Cond.selects (jyn iX0_solve).cls (jyn iX0_solve) (jyn iX0_solve) ∈ jTbl := jinT6 (List.mem_of_getElem? (i := 105) rfl) rfl
theorem wpX0_solve : (jyn iX0_solve).cls ≠ "java/lang/invoke/MethodHandle" ∧ (jyn iX0_solve).cls ≠ "java/lang/invoke/VarHandle" ∧ (parseMethodDescriptor (jyn iX0_solve).desc).map (fun d => d.parameters.length) = some 1 := ⟨by decide +kernel, by decide +kernel, by decide +kernel⟩
theorem wcX0_canDrive : Cond.code (jyn iX0_canDrive) (jyc iX0_canDrive) (jyl iX0_canDrive) (jyr iX0_canDrive) ∈ jTbl := jinT6 (List.mem_of_getElem? (i := 115) rfl) rfl
theorem wiX0_canDrive : Cond.instanceMethod (jyn iX0_canDrive) ∈ jTbl := jinT6 (List.mem_of_getElem? (i := 114) rfl) rfl
theorem wlX0_canDrive : Cond.selects (jyn iX0_canDrive).cls (jyn iX0_canDrive) (jyn iX0_canDrive) ∈ jTbl := jinS5 (x := (⟨"SchoolRides$Crew", "canDrive", "(III)Z"⟩, 7)) 6 rfl
theorem wpX0_canDrive : (jyn iX0_canDrive).cls ≠ "java/lang/invoke/MethodHandle" ∧ (jyn iX0_canDrive).cls ≠ "java/lang/invoke/VarHandle" ∧ (parseMethodDescriptor (jyn iX0_canDrive).desc).map (fun d => d.parameters.length) = some 3 := ⟨by decide +kernel, by decide +kernel, by decide +kernel⟩
theorem wcX0_leastFrom : Cond.code (jyn iX0_leastFrom) (jyc iX0_leastFrom) (jyl iX0_leastFrom) (jyr iX0_leastFrom) ∈ jTbl := jinT6 (List.mem_of_getElem? (i := 111) rfl) rfl
theorem wiX0_leastFrom : Cond.instanceMethod (jyn iX0_leastFrom) ∈ jTbl := jinT6 (List.mem_of_getElem? (i := 110) rfl) rfl
theorem wlX0_leastFrom : Cond.selects (jyn iX0_leastFrom).cls (jyn iX0_leastFrom) (jyn iX0_leastFrom) ∈ jTbl := jinS5 (x := (⟨"SchoolRides$Crew", "leastFrom", "(II)I"⟩, 7)) 5 rfl
theorem wpX0_leastFrom : (jyn iX0_leastFrom).cls ≠ "java/lang/invoke/MethodHandle" ∧ (jyn iX0_leastFrom).cls ≠ "java/lang/invoke/VarHandle" ∧ (parseMethodDescriptor (jyn iX0_leastFrom).desc).map (fun d => d.parameters.length) = some 2 := ⟨by decide +kernel, by decide +kernel, by decide +kernel⟩
theorem wcX0_listDrivers : Cond.code (jyn iX0_listDrivers) (jyc iX0_listDrivers) (jyl iX0_listDrivers) (jyr iX0_listDrivers) ∈ jTbl := jinT6 (List.mem_of_getElem? (i := 120) rfl) rfl
theorem wiX0_listDrivers : Cond.instanceMethod (jyn iX0_listDrivers) ∈ jTbl := jinT6 (List.mem_of_getElem? (i := 119) rfl) rfl
theorem wlX0_listDrivers : Cond.selects (jyn iX0_listDrivers).cls (jyn iX0_listDrivers) (jyn iX0_listDrivers) ∈ jTbl := jinS5 (x := (⟨"SchoolRides$Crew", "listDrivers", "(I)V"⟩, 7)) 7 rfl
theorem wpX0_listDrivers : (jyn iX0_listDrivers).cls ≠ "java/lang/invoke/MethodHandle" ∧ (jyn iX0_listDrivers).cls ≠ "java/lang/invoke/VarHandle" ∧ (parseMethodDescriptor (jyn iX0_listDrivers).desc).map (fun d => d.parameters.length) = some 1 := ⟨by decide +kernel, by decide +kernel, by decide +kernel⟩
theorem wcX0_firstDriver : Cond.code (jyn iX0_firstDriver) (jyc iX0_firstDriver) (jyl iX0_firstDriver) (jyr iX0_firstDriver) ∈ jTbl := jinT6 (List.mem_of_getElem? (i := 124) rfl) rfl
theorem wiX0_firstDriver : Cond.instanceMethod (jyn iX0_firstDriver) ∈ jTbl := jinT6 (List.mem_of_getElem? (i := 123) rfl) rfl
theorem wlX0_firstDriver : Cond.selects (jyn iX0_firstDriver).cls (jyn iX0_firstDriver) (jyn iX0_firstDriver) ∈ jTbl := jinS5 (x := (⟨"SchoolRides$Crew", "firstDriver", "(II)I"⟩, 7)) 8 rfl
theorem wpX0_firstDriver : (jyn iX0_firstDriver).cls ≠ "java/lang/invoke/MethodHandle" ∧ (jyn iX0_firstDriver).cls ≠ "java/lang/invoke/VarHandle" ∧ (parseMethodDescriptor (jyn iX0_firstDriver).desc).map (fun d => d.parameters.length) = some 2 := ⟨by decide +kernel, by decide +kernel, by decide +kernel⟩
theorem wcX0_leastLeft : Cond.code (jyn iX0_leastLeft) (jyc iX0_leastLeft) (jyl iX0_leastLeft) (jyr iX0_leastLeft) ∈ jTbl := jinT6 (List.mem_of_getElem? (i := 128) rfl) rfl
theorem wiX0_leastLeft : Cond.instanceMethod (jyn iX0_leastLeft) ∈ jTbl := jinT6 (List.mem_of_getElem? (i := 126) rfl) rfl
theorem wlX0_leastLeft : Cond.selects (jyn iX0_leastLeft).cls (jyn iX0_leastLeft) (jyn iX0_leastLeft) ∈ jTbl := jinT6 (List.mem_of_getElem? (i := 127) rfl) rfl
theorem wpX0_leastLeft : (jyn iX0_leastLeft).cls ≠ "java/lang/invoke/MethodHandle" ∧ (jyn iX0_leastLeft).cls ≠ "java/lang/invoke/VarHandle" ∧ (parseMethodDescriptor (jyn iX0_leastLeft).desc).map (fun d => d.parameters.length) = some 0 := ⟨by decide +kernel, by decide +kernel, by decide +kernel⟩
theorem wcX1_init : Cond.code (jyn iX1_init) (jyc iX1_init) (jyl iX1_init) (jyr iX1_init) ∈ jTbl := jinT1 (List.mem_of_getElem? (i := 174) rfl) rfl
theorem wiX1_init : Cond.instanceMethod (jyn iX1_init) ∈ jTbl := jinT1 (List.mem_of_getElem? (i := 173) rfl) rfl
theorem wnX1 : Cond.initialized RX1 ∈ jTbl := jinT1 (List.mem_of_getElem? (i := 9) rfl) rfl
theorem wpX1_init : (jyn iX1_init).cls ≠ "java/lang/invoke/MethodHandle" ∧ (jyn iX1_init).cls ≠ "java/lang/invoke/VarHandle" ∧ (parseMethodDescriptor (jyn iX1_init).desc).map (fun d => d.parameters.length) = some 0 := ⟨by decide +kernel, by decide +kernel, by decide +kernel⟩
theorem wcX1_add : Cond.code (jyn iX1_add) (jyc iX1_add) (jyl iX1_add) (jyr iX1_add) ∈ jTbl := jinT4 (List.mem_of_getElem? (i := 142) rfl) rfl
theorem wiX1_add : Cond.instanceMethod (jyn iX1_add) ∈ jTbl := jinT4 (List.mem_of_getElem? (i := 140) rfl) rfl
theorem wlX1_add : Cond.selects (jyn iX1_add).cls (jyn iX1_add) (jyn iX1_add) ∈ jTbl := jinT4 (List.mem_of_getElem? (i := 141) rfl) rfl
theorem wpX1_add : (jyn iX1_add).cls ≠ "java/lang/invoke/MethodHandle" ∧ (jyn iX1_add).cls ≠ "java/lang/invoke/VarHandle" ∧ (parseMethodDescriptor (jyn iX1_add).desc).map (fun d => d.parameters.length) = some 5 := ⟨by decide +kernel, by decide +kernel, by decide +kernel⟩
theorem wcX1_addChild : Cond.code (jyn iX1_addChild) (jyc iX1_addChild) (jyl iX1_addChild) (jyr iX1_addChild) ∈ jTbl := jinT4 (List.mem_of_getElem? (i := 138) rfl) rfl
theorem wiX1_addChild : Cond.instanceMethod (jyn iX1_addChild) ∈ jTbl := jinT4 (List.mem_of_getElem? (i := 136) rfl) rfl
theorem wlX1_addChild : Cond.selects (jyn iX1_addChild).cls (jyn iX1_addChild) (jyn iX1_addChild) ∈ jTbl := jinT4 (List.mem_of_getElem? (i := 137) rfl) rfl
theorem wpX1_addChild : (jyn iX1_addChild).cls ≠ "java/lang/invoke/MethodHandle" ∧ (jyn iX1_addChild).cls ≠ "java/lang/invoke/VarHandle" ∧ (parseMethodDescriptor (jyn iX1_addChild).desc).map (fun d => d.parameters.length) = some 4 := ⟨by decide +kernel, by decide +kernel, by decide +kernel⟩
theorem wcX1_addVoid : Cond.code (jyn iX1_addVoid) (jyc iX1_addVoid) (jyl iX1_addVoid) (jyr iX1_addVoid) ∈ jTbl := jinT4 (List.mem_of_getElem? (i := 167) rfl) rfl
theorem wiX1_addVoid : Cond.instanceMethod (jyn iX1_addVoid) ∈ jTbl := jinT4 (List.mem_of_getElem? (i := 165) rfl) rfl
theorem wlX1_addVoid : Cond.selects (jyn iX1_addVoid).cls (jyn iX1_addVoid) (jyn iX1_addVoid) ∈ jTbl := jinT4 (List.mem_of_getElem? (i := 166) rfl) rfl
theorem wpX1_addVoid : (jyn iX1_addVoid).cls ≠ "java/lang/invoke/MethodHandle" ∧ (jyn iX1_addVoid).cls ≠ "java/lang/invoke/VarHandle" ∧ (parseMethodDescriptor (jyn iX1_addVoid).desc).map (fun d => d.parameters.length) = some 1 := ⟨by decide +kernel, by decide +kernel, by decide +kernel⟩
theorem wcX1_isKnown : Cond.code (jyn iX1_isKnown) (jyc iX1_isKnown) (jyl iX1_isKnown) (jyr iX1_isKnown) ∈ jTbl := jinT4 (List.mem_of_getElem? (i := 206) rfl) rfl
theorem wiX1_isKnown : Cond.instanceMethod (jyn iX1_isKnown) ∈ jTbl := jinT4 (List.mem_of_getElem? (i := 204) rfl) rfl
theorem wlX1_isKnown : Cond.selects (jyn iX1_isKnown).cls (jyn iX1_isKnown) (jyn iX1_isKnown) ∈ jTbl := jinT4 (List.mem_of_getElem? (i := 205) rfl) rfl
theorem wpX1_isKnown : (jyn iX1_isKnown).cls ≠ "java/lang/invoke/MethodHandle" ∧ (jyn iX1_isKnown).cls ≠ "java/lang/invoke/VarHandle" ∧ (parseMethodDescriptor (jyn iX1_isKnown).desc).map (fun d => d.parameters.length) = some 3 := ⟨by decide +kernel, by decide +kernel, by decide +kernel⟩
theorem wcX1_childrenKnown : Cond.code (jyn iX1_childrenKnown) (jyc iX1_childrenKnown) (jyl iX1_childrenKnown) (jyr iX1_childrenKnown) ∈ jTbl := jinT4 (List.mem_of_getElem? (i := 194) rfl) rfl
theorem wiX1_childrenKnown : Cond.instanceMethod (jyn iX1_childrenKnown) ∈ jTbl := jinT4 (List.mem_of_getElem? (i := 192) rfl) rfl
theorem wlX1_childrenKnown : Cond.selects (jyn iX1_childrenKnown).cls (jyn iX1_childrenKnown) (jyn iX1_childrenKnown) ∈ jTbl := jinT4 (List.mem_of_getElem? (i := 193) rfl) rfl
theorem wpX1_childrenKnown : (jyn iX1_childrenKnown).cls ≠ "java/lang/invoke/MethodHandle" ∧ (jyn iX1_childrenKnown).cls ≠ "java/lang/invoke/VarHandle" ∧ (parseMethodDescriptor (jyn iX1_childrenKnown).desc).map (fun d => d.parameters.length) = some 1 := ⟨by decide +kernel, by decide +kernel, by decide +kernel⟩
theorem wcX1_homeOf : Cond.code (jyn iX1_homeOf) (jyc iX1_homeOf) (jyl iX1_homeOf) (jyr iX1_homeOf) ∈ jTbl := jinT4 (List.mem_of_getElem? (i := 198) rfl) rfl
theorem wiX1_homeOf : Cond.instanceMethod (jyn iX1_homeOf) ∈ jTbl := jinT4 (List.mem_of_getElem? (i := 196) rfl) rfl
theorem wlX1_homeOf : Cond.selects (jyn iX1_homeOf).cls (jyn iX1_homeOf) (jyn iX1_homeOf) ∈ jTbl := jinT4 (List.mem_of_getElem? (i := 197) rfl) rfl
theorem wpX1_homeOf : (jyn iX1_homeOf).cls ≠ "java/lang/invoke/MethodHandle" ∧ (jyn iX1_homeOf).cls ≠ "java/lang/invoke/VarHandle" ∧ (parseMethodDescriptor (jyn iX1_homeOf).desc).map (fun d => d.parameters.length) = some 3 := ⟨by decide +kernel, by decide +kernel, by decide +kernel⟩
theorem wcX1_latestMove : Cond.code (jyn iX1_latestMove) (jyc iX1_latestMove) (jyl iX1_latestMove) (jyr iX1_latestMove) ∈ jTbl := jinT4 (List.mem_of_getElem? (i := 202) rfl) rfl
theorem wiX1_latestMove : Cond.instanceMethod (jyn iX1_latestMove) ∈ jTbl := jinT4 (List.mem_of_getElem? (i := 201) rfl) rfl
theorem wlX1_latestMove : Cond.selects (jyn iX1_latestMove).cls (jyn iX1_latestMove) (jyn iX1_latestMove) ∈ jTbl := jinS3 (x := (⟨"SchoolRides$Facts", "latestMove", "(IIII)I"⟩, 9)) 1 rfl
theorem wpX1_latestMove : (jyn iX1_latestMove).cls ≠ "java/lang/invoke/MethodHandle" ∧ (jyn iX1_latestMove).cls ≠ "java/lang/invoke/VarHandle" ∧ (parseMethodDescriptor (jyn iX1_latestMove).desc).map (fun d => d.parameters.length) = some 4 := ⟨by decide +kernel, by decide +kernel, by decide +kernel⟩
theorem wcX1_areAlikeTaps : Cond.code (jyn iX1_areAlikeTaps) (jyc iX1_areAlikeTaps) (jyl iX1_areAlikeTaps) (jyr iX1_areAlikeTaps) ∈ jTbl := jinT6 (List.mem_of_getElem? (i := 175) rfl) rfl
theorem wiX1_areAlikeTaps : Cond.instanceMethod (jyn iX1_areAlikeTaps) ∈ jTbl := jinT6 (List.mem_of_getElem? (i := 173) rfl) rfl
theorem wlX1_areAlikeTaps : Cond.selects (jyn iX1_areAlikeTaps).cls (jyn iX1_areAlikeTaps) (jyn iX1_areAlikeTaps) ∈ jTbl := jinT6 (List.mem_of_getElem? (i := 174) rfl) rfl
theorem wpX1_areAlikeTaps : (jyn iX1_areAlikeTaps).cls ≠ "java/lang/invoke/MethodHandle" ∧ (jyn iX1_areAlikeTaps).cls ≠ "java/lang/invoke/VarHandle" ∧ (parseMethodDescriptor (jyn iX1_areAlikeTaps).desc).map (fun d => d.parameters.length) = some 3 := ⟨by decide +kernel, by decide +kernel, by decide +kernel⟩
theorem wcX2_init : Cond.code (jyn iX2_init) (jyc iX2_init) (jyl iX2_init) (jyr iX2_init) ∈ jTbl := jinT2 (List.mem_of_getElem? (i := 211) rfl) rfl
theorem wiX2_init : Cond.instanceMethod (jyn iX2_init) ∈ jTbl := jinT2 (List.mem_of_getElem? (i := 210) rfl) rfl
theorem wnX2 : Cond.initialized RX2 ∈ jTbl := jinT1 (List.mem_of_getElem? (i := 12) rfl) rfl
theorem wpX2_init : (jyn iX2_init).cls ≠ "java/lang/invoke/MethodHandle" ∧ (jyn iX2_init).cls ≠ "java/lang/invoke/VarHandle" ∧ (parseMethodDescriptor (jyn iX2_init).desc).map (fun d => d.parameters.length) = some 0 := ⟨by decide +kernel, by decide +kernel, by decide +kernel⟩
theorem wcX2_clear : Cond.code (jyn iX2_clear) (jyc iX2_clear) (jyl iX2_clear) (jyr iX2_clear) ∈ jTbl := jinT5 (List.mem_of_getElem? (i := 206) rfl) rfl
theorem wiX2_clear : Cond.instanceMethod (jyn iX2_clear) ∈ jTbl := jinT5 (List.mem_of_getElem? (i := 204) rfl) rfl
theorem wlX2_clear : Cond.selects (jyn iX2_clear).cls (jyn iX2_clear) (jyn iX2_clear) ∈ jTbl := jinT5 (List.mem_of_getElem? (i := 205) rfl) rfl
theorem wpX2_clear : (jyn iX2_clear).cls ≠ "java/lang/invoke/MethodHandle" ∧ (jyn iX2_clear).cls ≠ "java/lang/invoke/VarHandle" ∧ (parseMethodDescriptor (jyn iX2_clear).desc).map (fun d => d.parameters.length) = some 2 := ⟨by decide +kernel, by decide +kernel, by decide +kernel⟩
theorem wcX2_addRoutes : Cond.code (jyn iX2_addRoutes) (jyc iX2_addRoutes) (jyl iX2_addRoutes) (jyr iX2_addRoutes) ∈ jTbl := jinT5 (List.mem_of_getElem? (i := 211) rfl) rfl
theorem wiX2_addRoutes : Cond.instanceMethod (jyn iX2_addRoutes) ∈ jTbl := jinT5 (List.mem_of_getElem? (i := 209) rfl) rfl
theorem wlX2_addRoutes : Cond.selects (jyn iX2_addRoutes).cls (jyn iX2_addRoutes) (jyn iX2_addRoutes) ∈ jTbl := jinT5 (List.mem_of_getElem? (i := 210) rfl) rfl
theorem wpX2_addRoutes : (jyn iX2_addRoutes).cls ≠ "java/lang/invoke/MethodHandle" ∧ (jyn iX2_addRoutes).cls ≠ "java/lang/invoke/VarHandle" ∧ (parseMethodDescriptor (jyn iX2_addRoutes).desc).map (fun d => d.parameters.length) = some 3 := ⟨by decide +kernel, by decide +kernel, by decide +kernel⟩
theorem wcX2_measure : Cond.code (jyn iX2_measure) (jyc iX2_measure) (jyl iX2_measure) (jyr iX2_measure) ∈ jTbl := jinT5 (List.mem_of_getElem? (i := 216) rfl) rfl
theorem wiX2_measure : Cond.instanceMethod (jyn iX2_measure) ∈ jTbl := jinT5 (List.mem_of_getElem? (i := 214) rfl) rfl
theorem wlX2_measure : Cond.selects (jyn iX2_measure).cls (jyn iX2_measure) (jyn iX2_measure) ∈ jTbl := jinT5 (List.mem_of_getElem? (i := 215) rfl) rfl
theorem wpX2_measure : (jyn iX2_measure).cls ≠ "java/lang/invoke/MethodHandle" ∧ (jyn iX2_measure).cls ≠ "java/lang/invoke/VarHandle" ∧ (parseMethodDescriptor (jyn iX2_measure).desc).map (fun d => d.parameters.length) = some 1 := ⟨by decide +kernel, by decide +kernel, by decide +kernel⟩
theorem wcX2_noteFollower : Cond.code (jyn iX2_noteFollower) (jyc iX2_noteFollower) (jyl iX2_noteFollower) (jyr iX2_noteFollower) ∈ jTbl := jinT5 (List.mem_of_getElem? (i := 223) rfl) rfl
theorem wiX2_noteFollower : Cond.instanceMethod (jyn iX2_noteFollower) ∈ jTbl := jinT5 (List.mem_of_getElem? (i := 222) rfl) rfl
theorem wlX2_noteFollower : Cond.selects (jyn iX2_noteFollower).cls (jyn iX2_noteFollower) (jyn iX2_noteFollower) ∈ jTbl := jinS4 (x := (⟨"SchoolRides$Fleet", "noteFollower", "(III)V"⟩, 18)) 10 rfl
theorem wpX2_noteFollower : (jyn iX2_noteFollower).cls ≠ "java/lang/invoke/MethodHandle" ∧ (jyn iX2_noteFollower).cls ≠ "java/lang/invoke/VarHandle" ∧ (parseMethodDescriptor (jyn iX2_noteFollower).desc).map (fun d => d.parameters.length) = some 3 := ⟨by decide +kernel, by decide +kernel, by decide +kernel⟩
theorem wcX2_busesUnshifted : Cond.code (jyn iX2_busesUnshifted) (jyc iX2_busesUnshifted) (jyl iX2_busesUnshifted) (jyr iX2_busesUnshifted) ∈ jTbl := jinT5 (List.mem_of_getElem? (i := 227) rfl) rfl
theorem wiX2_busesUnshifted : Cond.instanceMethod (jyn iX2_busesUnshifted) ∈ jTbl := jinT5 (List.mem_of_getElem? (i := 225) rfl) rfl
theorem wlX2_busesUnshifted : Cond.selects (jyn iX2_busesUnshifted).cls (jyn iX2_busesUnshifted) (jyn iX2_busesUnshifted) ∈ jTbl := jinT5 (List.mem_of_getElem? (i := 226) rfl) rfl
theorem wpX2_busesUnshifted : (jyn iX2_busesUnshifted).cls ≠ "java/lang/invoke/MethodHandle" ∧ (jyn iX2_busesUnshifted).cls ≠ "java/lang/invoke/VarHandle" ∧ (parseMethodDescriptor (jyn iX2_busesUnshifted).desc).map (fun d => d.parameters.length) = some 0 := ⟨by decide +kernel, by decide +kernel, by decide +kernel⟩
theorem wcX2_findShifts : Cond.code (jyn iX2_findShifts) (jyc iX2_findShifts) (jyl iX2_findShifts) (jyr iX2_findShifts) ∈ jTbl := jinT6 (List.mem_of_getElem? (i := 12) rfl) rfl
theorem wiX2_findShifts : Cond.instanceMethod (jyn iX2_findShifts) ∈ jTbl := jinT6 (List.mem_of_getElem? (i := 10) rfl) rfl
theorem wlX2_findShifts : Cond.selects (jyn iX2_findShifts).cls (jyn iX2_findShifts) (jyn iX2_findShifts) ∈ jTbl := jinT6 (List.mem_of_getElem? (i := 11) rfl) rfl
theorem wpX2_findShifts : (jyn iX2_findShifts).cls ≠ "java/lang/invoke/MethodHandle" ∧ (jyn iX2_findShifts).cls ≠ "java/lang/invoke/VarHandle" ∧ (parseMethodDescriptor (jyn iX2_findShifts).desc).map (fun d => d.parameters.length) = some 0 := ⟨by decide +kernel, by decide +kernel, by decide +kernel⟩
theorem wcX2_putBells : Cond.code (jyn iX2_putBells) (jyc iX2_putBells) (jyl iX2_putBells) (jyr iX2_putBells) ∈ jTbl := jinT6 (List.mem_of_getElem? (i := 16) rfl) rfl
theorem wiX2_putBells : Cond.instanceMethod (jyn iX2_putBells) ∈ jTbl := jinT6 (List.mem_of_getElem? (i := 15) rfl) rfl
theorem wlX2_putBells : Cond.selects (jyn iX2_putBells).cls (jyn iX2_putBells) (jyn iX2_putBells) ∈ jTbl := jinS4 (x := (⟨"SchoolRides$Fleet", "putBells", "(I)V"⟩, 18)) 15 rfl
theorem wpX2_putBells : (jyn iX2_putBells).cls ≠ "java/lang/invoke/MethodHandle" ∧ (jyn iX2_putBells).cls ≠ "java/lang/invoke/VarHandle" ∧ (parseMethodDescriptor (jyn iX2_putBells).desc).map (fun d => d.parameters.length) = some 1 := ⟨by decide +kernel, by decide +kernel, by decide +kernel⟩
theorem wcX2_keepPuts : Cond.code (jyn iX2_keepPuts) (jyc iX2_keepPuts) (jyl iX2_keepPuts) (jyr iX2_keepPuts) ∈ jTbl := jinT6 (List.mem_of_getElem? (i := 27) rfl) rfl
theorem wiX2_keepPuts : Cond.instanceMethod (jyn iX2_keepPuts) ∈ jTbl := jinT6 (List.mem_of_getElem? (i := 26) rfl) rfl
theorem wlX2_keepPuts : Cond.selects (jyn iX2_keepPuts).cls (jyn iX2_keepPuts) (jyn iX2_keepPuts) ∈ jTbl := jinS5 (x := (⟨"SchoolRides$Fleet", "keepPuts", "()V"⟩, 18)) 1 rfl
theorem wpX2_keepPuts : (jyn iX2_keepPuts).cls ≠ "java/lang/invoke/MethodHandle" ∧ (jyn iX2_keepPuts).cls ≠ "java/lang/invoke/VarHandle" ∧ (parseMethodDescriptor (jyn iX2_keepPuts).desc).map (fun d => d.parameters.length) = some 0 := ⟨by decide +kernel, by decide +kernel, by decide +kernel⟩
theorem wcX2_putsExistingAlone : Cond.code (jyn iX2_putsExistingAlone) (jyc iX2_putsExistingAlone) (jyl iX2_putsExistingAlone) (jyr iX2_putsExistingAlone) ∈ jTbl := jinT6 (List.mem_of_getElem? (i := 23) rfl) rfl
theorem wiX2_putsExistingAlone : Cond.instanceMethod (jyn iX2_putsExistingAlone) ∈ jTbl := jinT6 (List.mem_of_getElem? (i := 22) rfl) rfl
theorem wlX2_putsExistingAlone : Cond.selects (jyn iX2_putsExistingAlone).cls (jyn iX2_putsExistingAlone) (jyn iX2_putsExistingAlone) ∈ jTbl := jinS5 (x := (⟨"SchoolRides$Fleet", "putsExistingAlone", "()Z"⟩, 18)) 0 rfl
theorem wpX2_putsExistingAlone : (jyn iX2_putsExistingAlone).cls ≠ "java/lang/invoke/MethodHandle" ∧ (jyn iX2_putsExistingAlone).cls ≠ "java/lang/invoke/VarHandle" ∧ (parseMethodDescriptor (jyn iX2_putsExistingAlone).desc).map (fun d => d.parameters.length) = some 0 := ⟨by decide +kernel, by decide +kernel, by decide +kernel⟩
theorem wcX2_fewestBuses : Cond.code (jyn iX2_fewestBuses) (jyc iX2_fewestBuses) (jyl iX2_fewestBuses) (jyr iX2_fewestBuses) ∈ jTbl := jinT5 (List.mem_of_getElem? (i := 231) rfl) rfl
theorem wiX2_fewestBuses : Cond.instanceMethod (jyn iX2_fewestBuses) ∈ jTbl := jinT5 (List.mem_of_getElem? (i := 230) rfl) rfl
theorem wlX2_fewestBuses : Cond.selects (jyn iX2_fewestBuses).cls (jyn iX2_fewestBuses) (jyn iX2_fewestBuses) ∈ jTbl := jinS4 (x := (⟨"SchoolRides$Fleet", "fewestBuses", "()I"⟩, 18)) 11 rfl
theorem wpX2_fewestBuses : (jyn iX2_fewestBuses).cls ≠ "java/lang/invoke/MethodHandle" ∧ (jyn iX2_fewestBuses).cls ≠ "java/lang/invoke/VarHandle" ∧ (parseMethodDescriptor (jyn iX2_fewestBuses).desc).map (fun d => d.parameters.length) = some 0 := ⟨by decide +kernel, by decide +kernel, by decide +kernel⟩
theorem wcX2_followersOf : Cond.code (jyn iX2_followersOf) (jyc iX2_followersOf) (jyl iX2_followersOf) (jyr iX2_followersOf) ∈ jTbl := jinT5 (List.mem_of_getElem? (i := 235) rfl) rfl
theorem wiX2_followersOf : Cond.instanceMethod (jyn iX2_followersOf) ∈ jTbl := jinT5 (List.mem_of_getElem? (i := 234) rfl) rfl
theorem wlX2_followersOf : Cond.selects (jyn iX2_followersOf).cls (jyn iX2_followersOf) (jyn iX2_followersOf) ∈ jTbl := jinS4 (x := (⟨"SchoolRides$Fleet", "followersOf", "(I)I"⟩, 18)) 12 rfl
theorem wpX2_followersOf : (jyn iX2_followersOf).cls ≠ "java/lang/invoke/MethodHandle" ∧ (jyn iX2_followersOf).cls ≠ "java/lang/invoke/VarHandle" ∧ (parseMethodDescriptor (jyn iX2_followersOf).desc).map (fun d => d.parameters.length) = some 1 := ⟨by decide +kernel, by decide +kernel, by decide +kernel⟩
theorem wcX2_findFollower : Cond.code (jyn iX2_findFollower) (jyc iX2_findFollower) (jyl iX2_findFollower) (jyr iX2_findFollower) ∈ jTbl := jinT5 (List.mem_of_getElem? (i := 239) rfl) rfl
theorem wiX2_findFollower : Cond.instanceMethod (jyn iX2_findFollower) ∈ jTbl := jinT5 (List.mem_of_getElem? (i := 238) rfl) rfl
theorem wlX2_findFollower : Cond.selects (jyn iX2_findFollower).cls (jyn iX2_findFollower) (jyn iX2_findFollower) ∈ jTbl := jinS4 (x := (⟨"SchoolRides$Fleet", "findFollower", "(I)Z"⟩, 18)) 13 rfl
theorem wpX2_findFollower : (jyn iX2_findFollower).cls ≠ "java/lang/invoke/MethodHandle" ∧ (jyn iX2_findFollower).cls ≠ "java/lang/invoke/VarHandle" ∧ (parseMethodDescriptor (jyn iX2_findFollower).desc).map (fun d => d.parameters.length) = some 1 := ⟨by decide +kernel, by decide +kernel, by decide +kernel⟩
theorem wcX2_joinBack : Cond.code (jyn iX2_joinBack) (jyc iX2_joinBack) (jyl iX2_joinBack) (jyr iX2_joinBack) ∈ jTbl := jinT6 (List.mem_of_getElem? (i := 4) rfl) rfl
theorem wiX2_joinBack : Cond.instanceMethod (jyn iX2_joinBack) ∈ jTbl := jinT6 (List.mem_of_getElem? (i := 3) rfl) rfl
theorem wlX2_joinBack : Cond.selects (jyn iX2_joinBack).cls (jyn iX2_joinBack) (jyn iX2_joinBack) ∈ jTbl := jinS4 (x := (⟨"SchoolRides$Fleet", "joinBack", "(I)V"⟩, 18)) 14 rfl
theorem wpX2_joinBack : (jyn iX2_joinBack).cls ≠ "java/lang/invoke/MethodHandle" ∧ (jyn iX2_joinBack).cls ≠ "java/lang/invoke/VarHandle" ∧ (parseMethodDescriptor (jyn iX2_joinBack).desc).map (fun d => d.parameters.length) = some 1 := ⟨by decide +kernel, by decide +kernel, by decide +kernel⟩
theorem wcX3_init : Cond.code (jyn iX3_init) (jyc iX3_init) (jyl iX3_init) (jyr iX3_init) ∈ jTbl := jinT2 (List.mem_of_getElem? (i := 139) rfl) rfl
theorem wiX3_init : Cond.instanceMethod (jyn iX3_init) ∈ jTbl := jinT2 (List.mem_of_getElem? (i := 138) rfl) rfl
theorem wnX3 : Cond.initialized RX3 ∈ jTbl := jinT1 (List.mem_of_getElem? (i := 11) rfl) rfl
theorem wpX3_init : (jyn iX3_init).cls ≠ "java/lang/invoke/MethodHandle" ∧ (jyn iX3_init).cls ≠ "java/lang/invoke/VarHandle" ∧ (parseMethodDescriptor (jyn iX3_init).desc).map (fun d => d.parameters.length) = some 0 := ⟨by decide +kernel, by decide +kernel, by decide +kernel⟩
theorem wcX3_make : Cond.code (jyn iX3_make) (jyc iX3_make) (jyl iX3_make) (jyr iX3_make) ∈ jTbl := jinT5 (List.mem_of_getElem? (i := 82) rfl) rfl
theorem wiX3_make : Cond.instanceMethod (jyn iX3_make) ∈ jTbl := jinT5 (List.mem_of_getElem? (i := 80) rfl) rfl
theorem wlX3_make : Cond.selects (jyn iX3_make).cls (jyn iX3_make) (jyn iX3_make) ∈ jTbl := jinT5 (List.mem_of_getElem? (i := 81) rfl) rfl
theorem wpX3_make : (jyn iX3_make).cls ≠ "java/lang/invoke/MethodHandle" ∧ (jyn iX3_make).cls ≠ "java/lang/invoke/VarHandle" ∧ (parseMethodDescriptor (jyn iX3_make).desc).map (fun d => d.parameters.length) = some 2 := ⟨by decide +kernel, by decide +kernel, by decide +kernel⟩
theorem wcX3_gatherRiders : Cond.code (jyn iX3_gatherRiders) (jyc iX3_gatherRiders) (jyl iX3_gatherRiders) (jyr iX3_gatherRiders) ∈ jTbl := jinT5 (List.mem_of_getElem? (i := 86) rfl) rfl
theorem wiX3_gatherRiders : Cond.instanceMethod (jyn iX3_gatherRiders) ∈ jTbl := jinT5 (List.mem_of_getElem? (i := 85) rfl) rfl
theorem wlX3_gatherRiders : Cond.selects (jyn iX3_gatherRiders).cls (jyn iX3_gatherRiders) (jyn iX3_gatherRiders) ∈ jTbl := jinS3 (x := (⟨"SchoolRides$Plan", "gatherRiders", "(LSchoolRides$View;I)V"⟩, 18)) 12 rfl
theorem wpX3_gatherRiders : (jyn iX3_gatherRiders).cls ≠ "java/lang/invoke/MethodHandle" ∧ (jyn iX3_gatherRiders).cls ≠ "java/lang/invoke/VarHandle" ∧ (parseMethodDescriptor (jyn iX3_gatherRiders).desc).map (fun d => d.parameters.length) = some 2 := ⟨by decide +kernel, by decide +kernel, by decide +kernel⟩
theorem wcX3_gatherParted : Cond.code (jyn iX3_gatherParted) (jyc iX3_gatherParted) (jyl iX3_gatherParted) (jyr iX3_gatherParted) ∈ jTbl := jinT5 (List.mem_of_getElem? (i := 91) rfl) rfl
theorem wiX3_gatherParted : Cond.instanceMethod (jyn iX3_gatherParted) ∈ jTbl := jinT5 (List.mem_of_getElem? (i := 90) rfl) rfl
theorem wlX3_gatherParted : Cond.selects (jyn iX3_gatherParted).cls (jyn iX3_gatherParted) (jyn iX3_gatherParted) ∈ jTbl := jinS3 (x := (⟨"SchoolRides$Plan", "gatherParted", "(LSchoolRides$View;I)V"⟩, 18)) 13 rfl
theorem wpX3_gatherParted : (jyn iX3_gatherParted).cls ≠ "java/lang/invoke/MethodHandle" ∧ (jyn iX3_gatherParted).cls ≠ "java/lang/invoke/VarHandle" ∧ (parseMethodDescriptor (jyn iX3_gatherParted).desc).map (fun d => d.parameters.length) = some 2 := ⟨by decide +kernel, by decide +kernel, by decide +kernel⟩
theorem wcX3_riderStop : Cond.code (jyn iX3_riderStop) (jyc iX3_riderStop) (jyl iX3_riderStop) (jyr iX3_riderStop) ∈ jTbl := jinT5 (List.mem_of_getElem? (i := 95) rfl) rfl
theorem wtX3_riderStop : Cond.static (jyn iX3_riderStop) ∈ jTbl := jinT5 (List.mem_of_getElem? (i := 94) rfl) rfl
theorem wpX3_riderStop : (jyn iX3_riderStop).cls ≠ "java/lang/invoke/MethodHandle" ∧ (jyn iX3_riderStop).cls ≠ "java/lang/invoke/VarHandle" ∧ (parseMethodDescriptor (jyn iX3_riderStop).desc).map (fun d => d.parameters.length) = some 3 := ⟨by decide +kernel, by decide +kernel, by decide +kernel⟩
theorem wcX3_measure : Cond.code (jyn iX3_measure) (jyc iX3_measure) (jyl iX3_measure) (jyr iX3_measure) ∈ jTbl := jinT5 (List.mem_of_getElem? (i := 99) rfl) rfl
theorem wiX3_measure : Cond.instanceMethod (jyn iX3_measure) ∈ jTbl := jinT5 (List.mem_of_getElem? (i := 98) rfl) rfl
theorem wlX3_measure : Cond.selects (jyn iX3_measure).cls (jyn iX3_measure) (jyn iX3_measure) ∈ jTbl := jinS3 (x := (⟨"SchoolRides$Plan", "measure", "(LSchoolRides$View;I)V"⟩, 18)) 14 rfl
theorem wpX3_measure : (jyn iX3_measure).cls ≠ "java/lang/invoke/MethodHandle" ∧ (jyn iX3_measure).cls ≠ "java/lang/invoke/VarHandle" ∧ (parseMethodDescriptor (jyn iX3_measure).desc).map (fun d => d.parameters.length) = some 2 := ⟨by decide +kernel, by decide +kernel, by decide +kernel⟩
theorem wcX3_findRoute : Cond.code (jyn iX3_findRoute) (jyc iX3_findRoute) (jyl iX3_findRoute) (jyr iX3_findRoute) ∈ jTbl := jinT5 (List.mem_of_getElem? (i := 105) rfl) rfl
theorem wiX3_findRoute : Cond.instanceMethod (jyn iX3_findRoute) ∈ jTbl := jinT5 (List.mem_of_getElem? (i := 104) rfl) rfl
theorem wlX3_findRoute : Cond.selects (jyn iX3_findRoute).cls (jyn iX3_findRoute) (jyn iX3_findRoute) ∈ jTbl := jinS3 (x := (⟨"SchoolRides$Plan", "findRoute", "(I)V"⟩, 18)) 15 rfl
theorem wpX3_findRoute : (jyn iX3_findRoute).cls ≠ "java/lang/invoke/MethodHandle" ∧ (jyn iX3_findRoute).cls ≠ "java/lang/invoke/VarHandle" ∧ (parseMethodDescriptor (jyn iX3_findRoute).desc).map (fun d => d.parameters.length) = some 1 := ⟨by decide +kernel, by decide +kernel, by decide +kernel⟩
theorem wcX3_leastBehind : Cond.code (jyn iX3_leastBehind) (jyc iX3_leastBehind) (jyl iX3_leastBehind) (jyr iX3_leastBehind) ∈ jTbl := jinT5 (List.mem_of_getElem? (i := 109) rfl) rfl
theorem wiX3_leastBehind : Cond.instanceMethod (jyn iX3_leastBehind) ∈ jTbl := jinT5 (List.mem_of_getElem? (i := 108) rfl) rfl
theorem wlX3_leastBehind : Cond.selects (jyn iX3_leastBehind).cls (jyn iX3_leastBehind) (jyn iX3_leastBehind) ∈ jTbl := jinS4 (x := (⟨"SchoolRides$Plan", "leastBehind", "(II)I"⟩, 18)) 0 rfl
theorem wpX3_leastBehind : (jyn iX3_leastBehind).cls ≠ "java/lang/invoke/MethodHandle" ∧ (jyn iX3_leastBehind).cls ≠ "java/lang/invoke/VarHandle" ∧ (parseMethodDescriptor (jyn iX3_leastBehind).desc).map (fun d => d.parameters.length) = some 2 := ⟨by decide +kernel, by decide +kernel, by decide +kernel⟩
theorem wcX3_stopInRoute : Cond.code (jyn iX3_stopInRoute) (jyc iX3_stopInRoute) (jyl iX3_stopInRoute) (jyr iX3_stopInRoute) ∈ jTbl := jinT5 (List.mem_of_getElem? (i := 156) rfl) rfl
theorem wiX3_stopInRoute : Cond.instanceMethod (jyn iX3_stopInRoute) ∈ jTbl := jinT5 (List.mem_of_getElem? (i := 154) rfl) rfl
theorem wlX3_stopInRoute : Cond.selects (jyn iX3_stopInRoute).cls (jyn iX3_stopInRoute) (jyn iX3_stopInRoute) ∈ jTbl := jinT5 (List.mem_of_getElem? (i := 155) rfl) rfl
theorem wpX3_stopInRoute : (jyn iX3_stopInRoute).cls ≠ "java/lang/invoke/MethodHandle" ∧ (jyn iX3_stopInRoute).cls ≠ "java/lang/invoke/VarHandle" ∧ (parseMethodDescriptor (jyn iX3_stopInRoute).desc).map (fun d => d.parameters.length) = some 2 := ⟨by decide +kernel, by decide +kernel, by decide +kernel⟩
theorem wcX3_firstWith : Cond.code (jyn iX3_firstWith) (jyc iX3_firstWith) (jyl iX3_firstWith) (jyr iX3_firstWith) ∈ jTbl := jinT5 (List.mem_of_getElem? (i := 161) rfl) rfl
theorem wiX3_firstWith : Cond.instanceMethod (jyn iX3_firstWith) ∈ jTbl := jinT5 (List.mem_of_getElem? (i := 160) rfl) rfl
theorem wlX3_firstWith : Cond.selects (jyn iX3_firstWith).cls (jyn iX3_firstWith) (jyn iX3_firstWith) ∈ jTbl := jinS4 (x := (⟨"SchoolRides$Plan", "firstWith", "(III)I"⟩, 18)) 8 rfl
theorem wpX3_firstWith : (jyn iX3_firstWith).cls ≠ "java/lang/invoke/MethodHandle" ∧ (jyn iX3_firstWith).cls ≠ "java/lang/invoke/VarHandle" ∧ (parseMethodDescriptor (jyn iX3_firstWith).desc).map (fun d => d.parameters.length) = some 3 := ⟨by decide +kernel, by decide +kernel, by decide +kernel⟩
theorem wcX3_canBeGood : Cond.code (jyn iX3_canBeGood) (jyc iX3_canBeGood) (jyl iX3_canBeGood) (jyr iX3_canBeGood) ∈ jTbl := jinT5 (List.mem_of_getElem? (i := 114) rfl) rfl
theorem wiX3_canBeGood : Cond.instanceMethod (jyn iX3_canBeGood) ∈ jTbl := jinT5 (List.mem_of_getElem? (i := 113) rfl) rfl
theorem wlX3_canBeGood : Cond.selects (jyn iX3_canBeGood).cls (jyn iX3_canBeGood) (jyn iX3_canBeGood) ∈ jTbl := jinS4 (x := (⟨"SchoolRides$Plan", "canBeGood", "(I[I)Z"⟩, 18)) 1 rfl
theorem wpX3_canBeGood : (jyn iX3_canBeGood).cls ≠ "java/lang/invoke/MethodHandle" ∧ (jyn iX3_canBeGood).cls ≠ "java/lang/invoke/VarHandle" ∧ (parseMethodDescriptor (jyn iX3_canBeGood).desc).map (fun d => d.parameters.length) = some 2 := ⟨by decide +kernel, by decide +kernel, by decide +kernel⟩
theorem wcX3_payOf : Cond.code (jyn iX3_payOf) (jyc iX3_payOf) (jyl iX3_payOf) (jyr iX3_payOf) ∈ jTbl := jinT5 (List.mem_of_getElem? (i := 128) rfl) rfl
theorem wiX3_payOf : Cond.instanceMethod (jyn iX3_payOf) ∈ jTbl := jinT5 (List.mem_of_getElem? (i := 127) rfl) rfl
theorem wlX3_payOf : Cond.selects (jyn iX3_payOf).cls (jyn iX3_payOf) (jyn iX3_payOf) ∈ jTbl := jinS4 (x := (⟨"SchoolRides$Plan", "payOf", "(I[I)I"⟩, 18)) 4 rfl
theorem wpX3_payOf : (jyn iX3_payOf).cls ≠ "java/lang/invoke/MethodHandle" ∧ (jyn iX3_payOf).cls ≠ "java/lang/invoke/VarHandle" ∧ (parseMethodDescriptor (jyn iX3_payOf).desc).map (fun d => d.parameters.length) = some 2 := ⟨by decide +kernel, by decide +kernel, by decide +kernel⟩
theorem wcX3_choose : Cond.code (jyn iX3_choose) (jyc iX3_choose) (jyl iX3_choose) (jyr iX3_choose) ∈ jTbl := jinT5 (List.mem_of_getElem? (i := 118) rfl) rfl
theorem wiX3_choose : Cond.instanceMethod (jyn iX3_choose) ∈ jTbl := jinT5 (List.mem_of_getElem? (i := 117) rfl) rfl
theorem wlX3_choose : Cond.selects (jyn iX3_choose).cls (jyn iX3_choose) (jyn iX3_choose) ∈ jTbl := jinS4 (x := (⟨"SchoolRides$Plan", "choose", "(I[I)V"⟩, 18)) 2 rfl
theorem wpX3_choose : (jyn iX3_choose).cls ≠ "java/lang/invoke/MethodHandle" ∧ (jyn iX3_choose).cls ≠ "java/lang/invoke/VarHandle" ∧ (parseMethodDescriptor (jyn iX3_choose).desc).map (fun d => d.parameters.length) = some 2 := ⟨by decide +kernel, by decide +kernel, by decide +kernel⟩
theorem wcX3_weighTaxi : Cond.code (jyn iX3_weighTaxi) (jyc iX3_weighTaxi) (jyl iX3_weighTaxi) (jyr iX3_weighTaxi) ∈ jTbl := jinT5 (List.mem_of_getElem? (i := 124) rfl) rfl
theorem wiX3_weighTaxi : Cond.instanceMethod (jyn iX3_weighTaxi) ∈ jTbl := jinT5 (List.mem_of_getElem? (i := 123) rfl) rfl
theorem wlX3_weighTaxi : Cond.selects (jyn iX3_weighTaxi).cls (jyn iX3_weighTaxi) (jyn iX3_weighTaxi) ∈ jTbl := jinS4 (x := (⟨"SchoolRides$Plan", "weighTaxi", "(III)V"⟩, 18)) 3 rfl
theorem wpX3_weighTaxi : (jyn iX3_weighTaxi).cls ≠ "java/lang/invoke/MethodHandle" ∧ (jyn iX3_weighTaxi).cls ≠ "java/lang/invoke/VarHandle" ∧ (parseMethodDescriptor (jyn iX3_weighTaxi).desc).map (fun d => d.parameters.length) = some 3 := ⟨by decide +kernel, by decide +kernel, by decide +kernel⟩
theorem wcX3_weighRoute : Cond.code (jyn iX3_weighRoute) (jyc iX3_weighRoute) (jyl iX3_weighRoute) (jyr iX3_weighRoute) ∈ jTbl := jinT5 (List.mem_of_getElem? (i := 132) rfl) rfl
theorem wiX3_weighRoute : Cond.instanceMethod (jyn iX3_weighRoute) ∈ jTbl := jinT5 (List.mem_of_getElem? (i := 131) rfl) rfl
theorem wlX3_weighRoute : Cond.selects (jyn iX3_weighRoute).cls (jyn iX3_weighRoute) (jyn iX3_weighRoute) ∈ jTbl := jinS4 (x := (⟨"SchoolRides$Plan", "weighRoute", "(III)V"⟩, 18)) 5 rfl
theorem wpX3_weighRoute : (jyn iX3_weighRoute).cls ≠ "java/lang/invoke/MethodHandle" ∧ (jyn iX3_weighRoute).cls ≠ "java/lang/invoke/VarHandle" ∧ (parseMethodDescriptor (jyn iX3_weighRoute).desc).map (fun d => d.parameters.length) = some 3 := ⟨by decide +kernel, by decide +kernel, by decide +kernel⟩
theorem wcX3_listRoutes : Cond.code (jyn iX3_listRoutes) (jyc iX3_listRoutes) (jyl iX3_listRoutes) (jyr iX3_listRoutes) ∈ jTbl := jinT5 (List.mem_of_getElem? (i := 136) rfl) rfl
theorem wiX3_listRoutes : Cond.instanceMethod (jyn iX3_listRoutes) ∈ jTbl := jinT5 (List.mem_of_getElem? (i := 135) rfl) rfl
theorem wlX3_listRoutes : Cond.selects (jyn iX3_listRoutes).cls (jyn iX3_listRoutes) (jyn iX3_listRoutes) ∈ jTbl := jinS4 (x := (⟨"SchoolRides$Plan", "listRoutes", "()V"⟩, 18)) 6 rfl
theorem wpX3_listRoutes : (jyn iX3_listRoutes).cls ≠ "java/lang/invoke/MethodHandle" ∧ (jyn iX3_listRoutes).cls ≠ "java/lang/invoke/VarHandle" ∧ (parseMethodDescriptor (jyn iX3_listRoutes).desc).map (fun d => d.parameters.length) = some 0 := ⟨by decide +kernel, by decide +kernel, by decide +kernel⟩
theorem wcX3_hasPlan : Cond.code (jyn iX3_hasPlan) (jyc iX3_hasPlan) (jyl iX3_hasPlan) (jyr iX3_hasPlan) ∈ jTbl := jinT5 (List.mem_of_getElem? (i := 140) rfl) rfl
theorem wiX3_hasPlan : Cond.instanceMethod (jyn iX3_hasPlan) ∈ jTbl := jinT5 (List.mem_of_getElem? (i := 138) rfl) rfl
theorem wlX3_hasPlan : Cond.selects (jyn iX3_hasPlan).cls (jyn iX3_hasPlan) (jyn iX3_hasPlan) ∈ jTbl := jinT5 (List.mem_of_getElem? (i := 139) rfl) rfl
theorem wpX3_hasPlan : (jyn iX3_hasPlan).cls ≠ "java/lang/invoke/MethodHandle" ∧ (jyn iX3_hasPlan).cls ≠ "java/lang/invoke/VarHandle" ∧ (parseMethodDescriptor (jyn iX3_hasPlan).desc).map (fun d => d.parameters.length) = some 0 := ⟨by decide +kernel, by decide +kernel, by decide +kernel⟩
theorem wcX3_leastPay : Cond.code (jyn iX3_leastPay) (jyc iX3_leastPay) (jyl iX3_leastPay) (jyr iX3_leastPay) ∈ jTbl := jinT5 (List.mem_of_getElem? (i := 174) rfl) rfl
theorem wiX3_leastPay : Cond.instanceMethod (jyn iX3_leastPay) ∈ jTbl := jinT5 (List.mem_of_getElem? (i := 172) rfl) rfl
theorem wlX3_leastPay : Cond.selects (jyn iX3_leastPay).cls (jyn iX3_leastPay) (jyn iX3_leastPay) ∈ jTbl := jinT5 (List.mem_of_getElem? (i := 173) rfl) rfl
theorem wpX3_leastPay : (jyn iX3_leastPay).cls ≠ "java/lang/invoke/MethodHandle" ∧ (jyn iX3_leastPay).cls ≠ "java/lang/invoke/VarHandle" ∧ (parseMethodDescriptor (jyn iX3_leastPay).desc).map (fun d => d.parameters.length) = some 0 := ⟨by decide +kernel, by decide +kernel, by decide +kernel⟩
theorem wcX3_fewestRoutes : Cond.code (jyn iX3_fewestRoutes) (jyc iX3_fewestRoutes) (jyl iX3_fewestRoutes) (jyr iX3_fewestRoutes) ∈ jTbl := jinT5 (List.mem_of_getElem? (i := 194) rfl) rfl
theorem wiX3_fewestRoutes : Cond.instanceMethod (jyn iX3_fewestRoutes) ∈ jTbl := jinT5 (List.mem_of_getElem? (i := 192) rfl) rfl
theorem wlX3_fewestRoutes : Cond.selects (jyn iX3_fewestRoutes).cls (jyn iX3_fewestRoutes) (jyn iX3_fewestRoutes) ∈ jTbl := jinT5 (List.mem_of_getElem? (i := 193) rfl) rfl
theorem wpX3_fewestRoutes : (jyn iX3_fewestRoutes).cls ≠ "java/lang/invoke/MethodHandle" ∧ (jyn iX3_fewestRoutes).cls ≠ "java/lang/invoke/VarHandle" ∧ (parseMethodDescriptor (jyn iX3_fewestRoutes).desc).map (fun d => d.parameters.length) = some 0 := ⟨by decide +kernel, by decide +kernel, by decide +kernel⟩
theorem wcX4_init : Cond.code (jyn iX4_init) (jyc iX4_init) (jyl iX4_init) (jyr iX4_init) ∈ jTbl := jinT1 (List.mem_of_getElem? (i := 33) rfl) rfl
theorem wiX4_init : Cond.instanceMethod (jyn iX4_init) ∈ jTbl := jinT1 (List.mem_of_getElem? (i := 32) rfl) rfl
theorem wnX4 : Cond.initialized RX4 ∈ jTbl := jinT1 (List.mem_of_getElem? (i := 2) rfl) rfl
theorem wpX4_init : (jyn iX4_init).cls ≠ "java/lang/invoke/MethodHandle" ∧ (jyn iX4_init).cls ≠ "java/lang/invoke/VarHandle" ∧ (parseMethodDescriptor (jyn iX4_init).desc).map (fun d => d.parameters.length) = some 0 := ⟨by decide +kernel, by decide +kernel, by decide +kernel⟩
theorem wcX4_readTape : Cond.code (jyn iX4_readTape) (jyc iX4_readTape) (jyl iX4_readTape) (jyr iX4_readTape) ∈ jTbl := jinT3 (List.mem_of_getElem? (i := 195) rfl) rfl
theorem wiX4_readTape : Cond.instanceMethod (jyn iX4_readTape) ∈ jTbl := jinT3 (List.mem_of_getElem? (i := 193) rfl) rfl
theorem wlX4_readTape : Cond.selects (jyn iX4_readTape).cls (jyn iX4_readTape) (jyn iX4_readTape) ∈ jTbl := jinT3 (List.mem_of_getElem? (i := 194) rfl) rfl
theorem wpX4_readTape : (jyn iX4_readTape).cls ≠ "java/lang/invoke/MethodHandle" ∧ (jyn iX4_readTape).cls ≠ "java/lang/invoke/VarHandle" ∧ (parseMethodDescriptor (jyn iX4_readTape).desc).map (fun d => d.parameters.length) = some 1 := ⟨by decide +kernel, by decide +kernel, by decide +kernel⟩
theorem wcX4_readTell : Cond.code (jyn iX4_readTell) (jyc iX4_readTell) (jyl iX4_readTell) (jyr iX4_readTell) ∈ jTbl := jinT4 (List.mem_of_getElem? (i := 12) rfl) rfl
theorem wiX4_readTell : Cond.instanceMethod (jyn iX4_readTell) ∈ jTbl := jinT4 (List.mem_of_getElem? (i := 11) rfl) rfl
theorem wlX4_readTell : Cond.selects (jyn iX4_readTell).cls (jyn iX4_readTell) (jyn iX4_readTell) ∈ jTbl := jinS1 (x := (⟨"SchoolRides$Reader", "readTell", "(LSchoolRides$Text;)V"⟩, 15)) 7 rfl
theorem wpX4_readTell : (jyn iX4_readTell).cls ≠ "java/lang/invoke/MethodHandle" ∧ (jyn iX4_readTell).cls ≠ "java/lang/invoke/VarHandle" ∧ (parseMethodDescriptor (jyn iX4_readTell).desc).map (fun d => d.parameters.length) = some 1 := ⟨by decide +kernel, by decide +kernel, by decide +kernel⟩
theorem wcX4_readPlace : Cond.code (jyn iX4_readPlace) (jyc iX4_readPlace) (jyl iX4_readPlace) (jyr iX4_readPlace) ∈ jTbl := jinT4 (List.mem_of_getElem? (i := 16) rfl) rfl
theorem wiX4_readPlace : Cond.instanceMethod (jyn iX4_readPlace) ∈ jTbl := jinT4 (List.mem_of_getElem? (i := 15) rfl) rfl
theorem wlX4_readPlace : Cond.selects (jyn iX4_readPlace).cls (jyn iX4_readPlace) (jyn iX4_readPlace) ∈ jTbl := jinS1 (x := (⟨"SchoolRides$Reader", "readPlace", "(LSchoolRides$Text;)V"⟩, 15)) 8 rfl
theorem wpX4_readPlace : (jyn iX4_readPlace).cls ≠ "java/lang/invoke/MethodHandle" ∧ (jyn iX4_readPlace).cls ≠ "java/lang/invoke/VarHandle" ∧ (parseMethodDescriptor (jyn iX4_readPlace).desc).map (fun d => d.parameters.length) = some 1 := ⟨by decide +kernel, by decide +kernel, by decide +kernel⟩
theorem wcX4_readWay : Cond.code (jyn iX4_readWay) (jyc iX4_readWay) (jyl iX4_readWay) (jyr iX4_readWay) ∈ jTbl := jinT4 (List.mem_of_getElem? (i := 44) rfl) rfl
theorem wiX4_readWay : Cond.instanceMethod (jyn iX4_readWay) ∈ jTbl := jinT4 (List.mem_of_getElem? (i := 43) rfl) rfl
theorem wlX4_readWay : Cond.selects (jyn iX4_readWay).cls (jyn iX4_readWay) (jyn iX4_readWay) ∈ jTbl := jinS1 (x := (⟨"SchoolRides$Reader", "readWay", "(LSchoolRides$Text;)V"⟩, 15)) 15 rfl
theorem wpX4_readWay : (jyn iX4_readWay).cls ≠ "java/lang/invoke/MethodHandle" ∧ (jyn iX4_readWay).cls ≠ "java/lang/invoke/VarHandle" ∧ (parseMethodDescriptor (jyn iX4_readWay).desc).map (fun d => d.parameters.length) = some 1 := ⟨by decide +kernel, by decide +kernel, by decide +kernel⟩
theorem wcX4_readSchool : Cond.code (jyn iX4_readSchool) (jyc iX4_readSchool) (jyl iX4_readSchool) (jyr iX4_readSchool) ∈ jTbl := jinT4 (List.mem_of_getElem? (i := 64) rfl) rfl
theorem wiX4_readSchool : Cond.instanceMethod (jyn iX4_readSchool) ∈ jTbl := jinT4 (List.mem_of_getElem? (i := 63) rfl) rfl
theorem wlX4_readSchool : Cond.selects (jyn iX4_readSchool).cls (jyn iX4_readSchool) (jyn iX4_readSchool) ∈ jTbl := jinS2 (x := (⟨"SchoolRides$Reader", "readSchool", "(LSchoolRides$Text;)V"⟩, 15)) 3 rfl
theorem wpX4_readSchool : (jyn iX4_readSchool).cls ≠ "java/lang/invoke/MethodHandle" ∧ (jyn iX4_readSchool).cls ≠ "java/lang/invoke/VarHandle" ∧ (parseMethodDescriptor (jyn iX4_readSchool).desc).map (fun d => d.parameters.length) = some 1 := ⟨by decide +kernel, by decide +kernel, by decide +kernel⟩
theorem wcX4_readStop : Cond.code (jyn iX4_readStop) (jyc iX4_readStop) (jyl iX4_readStop) (jyr iX4_readStop) ∈ jTbl := jinT4 (List.mem_of_getElem? (i := 72) rfl) rfl
theorem wiX4_readStop : Cond.instanceMethod (jyn iX4_readStop) ∈ jTbl := jinT4 (List.mem_of_getElem? (i := 71) rfl) rfl
theorem wlX4_readStop : Cond.selects (jyn iX4_readStop).cls (jyn iX4_readStop) (jyn iX4_readStop) ∈ jTbl := jinS2 (x := (⟨"SchoolRides$Reader", "readStop", "(LSchoolRides$Text;)V"⟩, 15)) 4 rfl
theorem wpX4_readStop : (jyn iX4_readStop).cls ≠ "java/lang/invoke/MethodHandle" ∧ (jyn iX4_readStop).cls ≠ "java/lang/invoke/VarHandle" ∧ (parseMethodDescriptor (jyn iX4_readStop).desc).map (fun d => d.parameters.length) = some 1 := ⟨by decide +kernel, by decide +kernel, by decide +kernel⟩
theorem wcX4_readRule : Cond.code (jyn iX4_readRule) (jyc iX4_readRule) (jyl iX4_readRule) (jyr iX4_readRule) ∈ jTbl := jinT4 (List.mem_of_getElem? (i := 122) rfl) rfl
theorem wiX4_readRule : Cond.instanceMethod (jyn iX4_readRule) ∈ jTbl := jinT4 (List.mem_of_getElem? (i := 121) rfl) rfl
theorem wlX4_readRule : Cond.selects (jyn iX4_readRule).cls (jyn iX4_readRule) (jyn iX4_readRule) ∈ jTbl := jinS2 (x := (⟨"SchoolRides$Reader", "readRule", "(LSchoolRides$Text;I)V"⟩, 15)) 12 rfl
theorem wpX4_readRule : (jyn iX4_readRule).cls ≠ "java/lang/invoke/MethodHandle" ∧ (jyn iX4_readRule).cls ≠ "java/lang/invoke/VarHandle" ∧ (parseMethodDescriptor (jyn iX4_readRule).desc).map (fun d => d.parameters.length) = some 2 := ⟨by decide +kernel, by decide +kernel, by decide +kernel⟩
theorem wcX4_readBus : Cond.code (jyn iX4_readBus) (jyc iX4_readBus) (jyl iX4_readBus) (jyr iX4_readBus) ∈ jTbl := jinT4 (List.mem_of_getElem? (i := 126) rfl) rfl
theorem wiX4_readBus : Cond.instanceMethod (jyn iX4_readBus) ∈ jTbl := jinT4 (List.mem_of_getElem? (i := 125) rfl) rfl
theorem wlX4_readBus : Cond.selects (jyn iX4_readBus).cls (jyn iX4_readBus) (jyn iX4_readBus) ∈ jTbl := jinS2 (x := (⟨"SchoolRides$Reader", "readBus", "(LSchoolRides$Text;)V"⟩, 15)) 13 rfl
theorem wpX4_readBus : (jyn iX4_readBus).cls ≠ "java/lang/invoke/MethodHandle" ∧ (jyn iX4_readBus).cls ≠ "java/lang/invoke/VarHandle" ∧ (parseMethodDescriptor (jyn iX4_readBus).desc).map (fun d => d.parameters.length) = some 1 := ⟨by decide +kernel, by decide +kernel, by decide +kernel⟩
theorem wcX4_readRight : Cond.code (jyn iX4_readRight) (jyc iX4_readRight) (jyl iX4_readRight) (jyr iX4_readRight) ∈ jTbl := jinT4 (List.mem_of_getElem? (i := 80) rfl) rfl
theorem wiX4_readRight : Cond.instanceMethod (jyn iX4_readRight) ∈ jTbl := jinT4 (List.mem_of_getElem? (i := 79) rfl) rfl
theorem wlX4_readRight : Cond.selects (jyn iX4_readRight).cls (jyn iX4_readRight) (jyn iX4_readRight) ∈ jTbl := jinS2 (x := (⟨"SchoolRides$Reader", "readRight", "(LSchoolRides$Text;)V"⟩, 15)) 5 rfl
theorem wpX4_readRight : (jyn iX4_readRight).cls ≠ "java/lang/invoke/MethodHandle" ∧ (jyn iX4_readRight).cls ≠ "java/lang/invoke/VarHandle" ∧ (parseMethodDescriptor (jyn iX4_readRight).desc).map (fun d => d.parameters.length) = some 1 := ⟨by decide +kernel, by decide +kernel, by decide +kernel⟩
theorem wcX4_beginLiteral : Cond.code (jyn iX4_beginLiteral) (jyc iX4_beginLiteral) (jyl iX4_beginLiteral) (jyr iX4_beginLiteral) ∈ jTbl := jinT4 (List.mem_of_getElem? (i := 84) rfl) rfl
theorem wiX4_beginLiteral : Cond.instanceMethod (jyn iX4_beginLiteral) ∈ jTbl := jinT4 (List.mem_of_getElem? (i := 83) rfl) rfl
theorem wlX4_beginLiteral : Cond.selects (jyn iX4_beginLiteral).cls (jyn iX4_beginLiteral) (jyn iX4_beginLiteral) ∈ jTbl := jinS2 (x := (⟨"SchoolRides$Reader", "beginLiteral", "()V"⟩, 15)) 6 rfl
theorem wpX4_beginLiteral : (jyn iX4_beginLiteral).cls ≠ "java/lang/invoke/MethodHandle" ∧ (jyn iX4_beginLiteral).cls ≠ "java/lang/invoke/VarHandle" ∧ (parseMethodDescriptor (jyn iX4_beginLiteral).desc).map (fun d => d.parameters.length) = some 0 := ⟨by decide +kernel, by decide +kernel, by decide +kernel⟩
theorem wcX4_readOperand : Cond.code (jyn iX4_readOperand) (jyc iX4_readOperand) (jyl iX4_readOperand) (jyr iX4_readOperand) ∈ jTbl := jinT4 (List.mem_of_getElem? (i := 88) rfl) rfl
theorem wiX4_readOperand : Cond.instanceMethod (jyn iX4_readOperand) ∈ jTbl := jinT4 (List.mem_of_getElem? (i := 87) rfl) rfl
theorem wlX4_readOperand : Cond.selects (jyn iX4_readOperand).cls (jyn iX4_readOperand) (jyn iX4_readOperand) ∈ jTbl := jinS2 (x := (⟨"SchoolRides$Reader", "readOperand", "(LSchoolRides$Text;)V"⟩, 15)) 7 rfl
theorem wpX4_readOperand : (jyn iX4_readOperand).cls ≠ "java/lang/invoke/MethodHandle" ∧ (jyn iX4_readOperand).cls ≠ "java/lang/invoke/VarHandle" ∧ (parseMethodDescriptor (jyn iX4_readOperand).desc).map (fun d => d.parameters.length) = some 1 := ⟨by decide +kernel, by decide +kernel, by decide +kernel⟩
theorem wcX4_readOperator : Cond.code (jyn iX4_readOperator) (jyc iX4_readOperator) (jyl iX4_readOperator) (jyr iX4_readOperator) ∈ jTbl := jinT4 (List.mem_of_getElem? (i := 100) rfl) rfl
theorem wiX4_readOperator : Cond.instanceMethod (jyn iX4_readOperator) ∈ jTbl := jinT4 (List.mem_of_getElem? (i := 99) rfl) rfl
theorem wlX4_readOperator : Cond.selects (jyn iX4_readOperator).cls (jyn iX4_readOperator) (jyn iX4_readOperator) ∈ jTbl := jinS2 (x := (⟨"SchoolRides$Reader", "readOperator", "(LSchoolRides$Text;)Z"⟩, 15)) 9 rfl
theorem wpX4_readOperator : (jyn iX4_readOperator).cls ≠ "java/lang/invoke/MethodHandle" ∧ (jyn iX4_readOperator).cls ≠ "java/lang/invoke/VarHandle" ∧ (parseMethodDescriptor (jyn iX4_readOperator).desc).map (fun d => d.parameters.length) = some 1 := ⟨by decide +kernel, by decide +kernel, by decide +kernel⟩
theorem wcX4_mayFollowOperand : Cond.code (jyn iX4_mayFollowOperand) (jyc iX4_mayFollowOperand) (jyl iX4_mayFollowOperand) (jyr iX4_mayFollowOperand) ∈ jTbl := jinT4 (List.mem_of_getElem? (i := 111) rfl) rfl
theorem wiX4_mayFollowOperand : Cond.instanceMethod (jyn iX4_mayFollowOperand) ∈ jTbl := jinT4 (List.mem_of_getElem? (i := 110) rfl) rfl
theorem wlX4_mayFollowOperand : Cond.selects (jyn iX4_mayFollowOperand).cls (jyn iX4_mayFollowOperand) (jyn iX4_mayFollowOperand) ∈ jTbl := jinS2 (x := (⟨"SchoolRides$Reader", "mayFollowOperand", "(I)Z"⟩, 15)) 11 rfl
theorem wpX4_mayFollowOperand : (jyn iX4_mayFollowOperand).cls ≠ "java/lang/invoke/MethodHandle" ∧ (jyn iX4_mayFollowOperand).cls ≠ "java/lang/invoke/VarHandle" ∧ (parseMethodDescriptor (jyn iX4_mayFollowOperand).desc).map (fun d => d.parameters.length) = some 1 := ⟨by decide +kernel, by decide +kernel, by decide +kernel⟩
theorem wcX4_isComparison : Cond.code (jyn iX4_isComparison) (jyc iX4_isComparison) (jyl iX4_isComparison) (jyr iX4_isComparison) ∈ jTbl := jinT4 (List.mem_of_getElem? (i := 114) rfl) rfl
theorem wtX4_isComparison : Cond.static (jyn iX4_isComparison) ∈ jTbl := jinT4 (List.mem_of_getElem? (i := 113) rfl) rfl
theorem wpX4_isComparison : (jyn iX4_isComparison).cls ≠ "java/lang/invoke/MethodHandle" ∧ (jyn iX4_isComparison).cls ≠ "java/lang/invoke/VarHandle" ∧ (parseMethodDescriptor (jyn iX4_isComparison).desc).map (fun d => d.parameters.length) = some 1 := ⟨by decide +kernel, by decide +kernel, by decide +kernel⟩
theorem wcX4_strengthOf : Cond.code (jyn iX4_strengthOf) (jyc iX4_strengthOf) (jyl iX4_strengthOf) (jyr iX4_strengthOf) ∈ jTbl := jinT4 (List.mem_of_getElem? (i := 107) rfl) rfl
theorem wtX4_strengthOf : Cond.static (jyn iX4_strengthOf) ∈ jTbl := jinT4 (List.mem_of_getElem? (i := 106) rfl) rfl
theorem wpX4_strengthOf : (jyn iX4_strengthOf).cls ≠ "java/lang/invoke/MethodHandle" ∧ (jyn iX4_strengthOf).cls ≠ "java/lang/invoke/VarHandle" ∧ (parseMethodDescriptor (jyn iX4_strengthOf).desc).map (fun d => d.parameters.length) = some 1 := ⟨by decide +kernel, by decide +kernel, by decide +kernel⟩
theorem wcX4_await : Cond.code (jyn iX4_await) (jyc iX4_await) (jyl iX4_await) (jyr iX4_await) ∈ jTbl := jinT4 (List.mem_of_getElem? (i := 92) rfl) rfl
theorem wiX4_await : Cond.instanceMethod (jyn iX4_await) ∈ jTbl := jinT4 (List.mem_of_getElem? (i := 91) rfl) rfl
theorem wlX4_await : Cond.selects (jyn iX4_await).cls (jyn iX4_await) (jyn iX4_await) ∈ jTbl := jinS2 (x := (⟨"SchoolRides$Reader", "await", "(I)V"⟩, 15)) 8 rfl
theorem wpX4_await : (jyn iX4_await).cls ≠ "java/lang/invoke/MethodHandle" ∧ (jyn iX4_await).cls ≠ "java/lang/invoke/VarHandle" ∧ (parseMethodDescriptor (jyn iX4_await).desc).map (fun d => d.parameters.length) = some 1 := ⟨by decide +kernel, by decide +kernel, by decide +kernel⟩
theorem wcX4_settle : Cond.code (jyn iX4_settle) (jyc iX4_settle) (jyl iX4_settle) (jyr iX4_settle) ∈ jTbl := jinT4 (List.mem_of_getElem? (i := 104) rfl) rfl
theorem wiX4_settle : Cond.instanceMethod (jyn iX4_settle) ∈ jTbl := jinT4 (List.mem_of_getElem? (i := 103) rfl) rfl
theorem wlX4_settle : Cond.selects (jyn iX4_settle).cls (jyn iX4_settle) (jyn iX4_settle) ∈ jTbl := jinS2 (x := (⟨"SchoolRides$Reader", "settle", "(LSchoolRides$Text;I)V"⟩, 15)) 10 rfl
theorem wpX4_settle : (jyn iX4_settle).cls ≠ "java/lang/invoke/MethodHandle" ∧ (jyn iX4_settle).cls ≠ "java/lang/invoke/VarHandle" ∧ (parseMethodDescriptor (jyn iX4_settle).desc).map (fun d => d.parameters.length) = some 2 := ⟨by decide +kernel, by decide +kernel, by decide +kernel⟩
theorem wcX4_kindAhead : Cond.code (jyn iX4_kindAhead) (jyc iX4_kindAhead) (jyl iX4_kindAhead) (jyr iX4_kindAhead) ∈ jTbl := jinT4 (List.mem_of_getElem? (i := 8) rfl) rfl
theorem wiX4_kindAhead : Cond.instanceMethod (jyn iX4_kindAhead) ∈ jTbl := jinT4 (List.mem_of_getElem? (i := 7) rfl) rfl
theorem wlX4_kindAhead : Cond.selects (jyn iX4_kindAhead).cls (jyn iX4_kindAhead) (jyn iX4_kindAhead) ∈ jTbl := jinS1 (x := (⟨"SchoolRides$Reader", "kindAhead", "()I"⟩, 15)) 6 rfl
theorem wpX4_kindAhead : (jyn iX4_kindAhead).cls ≠ "java/lang/invoke/MethodHandle" ∧ (jyn iX4_kindAhead).cls ≠ "java/lang/invoke/VarHandle" ∧ (parseMethodDescriptor (jyn iX4_kindAhead).desc).map (fun d => d.parameters.length) = some 0 := ⟨by decide +kernel, by decide +kernel, by decide +kernel⟩
theorem wcX4_intAt : Cond.code (jyn iX4_intAt) (jyc iX4_intAt) (jyl iX4_intAt) (jyr iX4_intAt) ∈ jTbl := jinT4 (List.mem_of_getElem? (i := 56) rfl) rfl
theorem wiX4_intAt : Cond.instanceMethod (jyn iX4_intAt) ∈ jTbl := jinT4 (List.mem_of_getElem? (i := 55) rfl) rfl
theorem wlX4_intAt : Cond.selects (jyn iX4_intAt).cls (jyn iX4_intAt) (jyn iX4_intAt) ∈ jTbl := jinS2 (x := (⟨"SchoolRides$Reader", "intAt", "(I)I"⟩, 15)) 2 rfl
theorem wpX4_intAt : (jyn iX4_intAt).cls ≠ "java/lang/invoke/MethodHandle" ∧ (jyn iX4_intAt).cls ≠ "java/lang/invoke/VarHandle" ∧ (parseMethodDescriptor (jyn iX4_intAt).desc).map (fun d => d.parameters.length) = some 1 := ⟨by decide +kernel, by decide +kernel, by decide +kernel⟩
theorem wcX4_take : Cond.code (jyn iX4_take) (jyc iX4_take) (jyl iX4_take) (jyr iX4_take) ∈ jTbl := jinT4 (List.mem_of_getElem? (i := 28) rfl) rfl
theorem wiX4_take : Cond.instanceMethod (jyn iX4_take) ∈ jTbl := jinT4 (List.mem_of_getElem? (i := 27) rfl) rfl
theorem wlX4_take : Cond.selects (jyn iX4_take).cls (jyn iX4_take) (jyn iX4_take) ∈ jTbl := jinS1 (x := (⟨"SchoolRides$Reader", "take", "(I)V"⟩, 15)) 11 rfl
theorem wpX4_take : (jyn iX4_take).cls ≠ "java/lang/invoke/MethodHandle" ∧ (jyn iX4_take).cls ≠ "java/lang/invoke/VarHandle" ∧ (parseMethodDescriptor (jyn iX4_take).desc).map (fun d => d.parameters.length) = some 1 := ⟨by decide +kernel, by decide +kernel, by decide +kernel⟩
theorem wcX4_needRoom : Cond.code (jyn iX4_needRoom) (jyc iX4_needRoom) (jyl iX4_needRoom) (jyr iX4_needRoom) ∈ jTbl := jinT4 (List.mem_of_getElem? (i := 20) rfl) rfl
theorem wiX4_needRoom : Cond.instanceMethod (jyn iX4_needRoom) ∈ jTbl := jinT4 (List.mem_of_getElem? (i := 19) rfl) rfl
theorem wlX4_needRoom : Cond.selects (jyn iX4_needRoom).cls (jyn iX4_needRoom) (jyn iX4_needRoom) ∈ jTbl := jinS1 (x := (⟨"SchoolRides$Reader", "needRoom", "(II)V"⟩, 15)) 9 rfl
theorem wpX4_needRoom : (jyn iX4_needRoom).cls ≠ "java/lang/invoke/MethodHandle" ∧ (jyn iX4_needRoom).cls ≠ "java/lang/invoke/VarHandle" ∧ (parseMethodDescriptor (jyn iX4_needRoom).desc).map (fun d => d.parameters.length) = some 2 := ⟨by decide +kernel, by decide +kernel, by decide +kernel⟩
theorem wcX4_fail : Cond.code (jyn iX4_fail) (jyc iX4_fail) (jyl iX4_fail) (jyr iX4_fail) ∈ jTbl := jinT4 (List.mem_of_getElem? (i := 24) rfl) rfl
theorem wiX4_fail : Cond.instanceMethod (jyn iX4_fail) ∈ jTbl := jinT4 (List.mem_of_getElem? (i := 23) rfl) rfl
theorem wlX4_fail : Cond.selects (jyn iX4_fail).cls (jyn iX4_fail) (jyn iX4_fail) ∈ jTbl := jinS1 (x := (⟨"SchoolRides$Reader", "fail", "(I)V"⟩, 15)) 10 rfl
theorem wpX4_fail : (jyn iX4_fail).cls ≠ "java/lang/invoke/MethodHandle" ∧ (jyn iX4_fail).cls ≠ "java/lang/invoke/VarHandle" ∧ (parseMethodDescriptor (jyn iX4_fail).desc).map (fun d => d.parameters.length) = some 1 := ⟨by decide +kernel, by decide +kernel, by decide +kernel⟩
theorem wcX4_wrongIf : Cond.code (jyn iX4_wrongIf) (jyc iX4_wrongIf) (jyl iX4_wrongIf) (jyr iX4_wrongIf) ∈ jTbl := jinT4 (List.mem_of_getElem? (i := 52) rfl) rfl
theorem wiX4_wrongIf : Cond.instanceMethod (jyn iX4_wrongIf) ∈ jTbl := jinT4 (List.mem_of_getElem? (i := 51) rfl) rfl
theorem wlX4_wrongIf : Cond.selects (jyn iX4_wrongIf).cls (jyn iX4_wrongIf) (jyn iX4_wrongIf) ∈ jTbl := jinS2 (x := (⟨"SchoolRides$Reader", "wrongIf", "(ZI)V"⟩, 15)) 1 rfl
theorem wpX4_wrongIf : (jyn iX4_wrongIf).cls ≠ "java/lang/invoke/MethodHandle" ∧ (jyn iX4_wrongIf).cls ≠ "java/lang/invoke/VarHandle" ∧ (parseMethodDescriptor (jyn iX4_wrongIf).desc).map (fun d => d.parameters.length) = some 2 := ⟨by decide +kernel, by decide +kernel, by decide +kernel⟩
theorem wcX4_failLate : Cond.code (jyn iX4_failLate) (jyc iX4_failLate) (jyl iX4_failLate) (jyr iX4_failLate) ∈ jTbl := jinT4 (List.mem_of_getElem? (i := 40) rfl) rfl
theorem wiX4_failLate : Cond.instanceMethod (jyn iX4_failLate) ∈ jTbl := jinT4 (List.mem_of_getElem? (i := 39) rfl) rfl
theorem wlX4_failLate : Cond.selects (jyn iX4_failLate).cls (jyn iX4_failLate) (jyn iX4_failLate) ∈ jTbl := jinS1 (x := (⟨"SchoolRides$Reader", "failLate", "(II)V"⟩, 15)) 14 rfl
theorem wpX4_failLate : (jyn iX4_failLate).cls ≠ "java/lang/invoke/MethodHandle" ∧ (jyn iX4_failLate).cls ≠ "java/lang/invoke/VarHandle" ∧ (parseMethodDescriptor (jyn iX4_failLate).desc).map (fun d => d.parameters.length) = some 2 := ⟨by decide +kernel, by decide +kernel, by decide +kernel⟩
theorem wcX4_tellName : Cond.code (jyn iX4_tellName) (jyc iX4_tellName) (jyl iX4_tellName) (jyr iX4_tellName) ∈ jTbl := jinT4 (List.mem_of_getElem? (i := 32) rfl) rfl
theorem wiX4_tellName : Cond.instanceMethod (jyn iX4_tellName) ∈ jTbl := jinT4 (List.mem_of_getElem? (i := 31) rfl) rfl
theorem wlX4_tellName : Cond.selects (jyn iX4_tellName).cls (jyn iX4_tellName) (jyn iX4_tellName) ∈ jTbl := jinS1 (x := (⟨"SchoolRides$Reader", "tellName", "(II)V"⟩, 15)) 12 rfl
theorem wpX4_tellName : (jyn iX4_tellName).cls ≠ "java/lang/invoke/MethodHandle" ∧ (jyn iX4_tellName).cls ≠ "java/lang/invoke/VarHandle" ∧ (parseMethodDescriptor (jyn iX4_tellName).desc).map (fun d => d.parameters.length) = some 2 := ⟨by decide +kernel, by decide +kernel, by decide +kernel⟩
theorem wcX4_placeNamed : Cond.code (jyn iX4_placeNamed) (jyc iX4_placeNamed) (jyl iX4_placeNamed) (jyr iX4_placeNamed) ∈ jTbl := jinT4 (List.mem_of_getElem? (i := 48) rfl) rfl
theorem wiX4_placeNamed : Cond.instanceMethod (jyn iX4_placeNamed) ∈ jTbl := jinT4 (List.mem_of_getElem? (i := 47) rfl) rfl
theorem wlX4_placeNamed : Cond.selects (jyn iX4_placeNamed).cls (jyn iX4_placeNamed) (jyn iX4_placeNamed) ∈ jTbl := jinS2 (x := (⟨"SchoolRides$Reader", "placeNamed", "(I)I"⟩, 15)) 0 rfl
theorem wpX4_placeNamed : (jyn iX4_placeNamed).cls ≠ "java/lang/invoke/MethodHandle" ∧ (jyn iX4_placeNamed).cls ≠ "java/lang/invoke/VarHandle" ∧ (parseMethodDescriptor (jyn iX4_placeNamed).desc).map (fun d => d.parameters.length) = some 1 := ⟨by decide +kernel, by decide +kernel, by decide +kernel⟩
theorem wcX4_indexOfName : Cond.code (jyn iX4_indexOfName) (jyc iX4_indexOfName) (jyl iX4_indexOfName) (jyr iX4_indexOfName) ∈ jTbl := jinT4 (List.mem_of_getElem? (i := 36) rfl) rfl
theorem wiX4_indexOfName : Cond.instanceMethod (jyn iX4_indexOfName) ∈ jTbl := jinT4 (List.mem_of_getElem? (i := 35) rfl) rfl
theorem wlX4_indexOfName : Cond.selects (jyn iX4_indexOfName).cls (jyn iX4_indexOfName) (jyn iX4_indexOfName) ∈ jTbl := jinS1 (x := (⟨"SchoolRides$Reader", "indexOfName", "(I)I"⟩, 15)) 13 rfl
theorem wpX4_indexOfName : (jyn iX4_indexOfName).cls ≠ "java/lang/invoke/MethodHandle" ∧ (jyn iX4_indexOfName).cls ≠ "java/lang/invoke/VarHandle" ∧ (parseMethodDescriptor (jyn iX4_indexOfName).desc).map (fun d => d.parameters.length) = some 1 := ⟨by decide +kernel, by decide +kernel, by decide +kernel⟩
theorem wcX5_init : Cond.code (jyn iX5_init) (jyc iX5_init) (jyl iX5_init) (jyr iX5_init) ∈ jTbl := jinT3 (List.mem_of_getElem? (i := 104) rfl) rfl
theorem wiX5_init : Cond.instanceMethod (jyn iX5_init) ∈ jTbl := jinT3 (List.mem_of_getElem? (i := 103) rfl) rfl
theorem wnX5 : Cond.initialized RX5 ∈ jTbl := jinT1 (List.mem_of_getElem? (i := 16) rfl) rfl
theorem wpX5_init : (jyn iX5_init).cls ≠ "java/lang/invoke/MethodHandle" ∧ (jyn iX5_init).cls ≠ "java/lang/invoke/VarHandle" ∧ (parseMethodDescriptor (jyn iX5_init).desc).map (fun d => d.parameters.length) = some 0 := ⟨by decide +kernel, by decide +kernel, by decide +kernel⟩
theorem wcX5_add : Cond.code (jyn iX5_add) (jyc iX5_add) (jyl iX5_add) (jyr iX5_add) ∈ jTbl := jinT6 (List.mem_of_getElem? (i := 140) rfl) rfl
theorem wiX5_add : Cond.instanceMethod (jyn iX5_add) ∈ jTbl := jinT6 (List.mem_of_getElem? (i := 138) rfl) rfl
theorem wlX5_add : Cond.selects (jyn iX5_add).cls (jyn iX5_add) (jyn iX5_add) ∈ jTbl := jinT6 (List.mem_of_getElem? (i := 139) rfl) rfl
theorem wpX5_add : (jyn iX5_add).cls ≠ "java/lang/invoke/MethodHandle" ∧ (jyn iX5_add).cls ≠ "java/lang/invoke/VarHandle" ∧ (parseMethodDescriptor (jyn iX5_add).desc).map (fun d => d.parameters.length) = some 3 := ⟨by decide +kernel, by decide +kernel, by decide +kernel⟩
theorem wcX5_spread : Cond.code (jyn iX5_spread) (jyc iX5_spread) (jyl iX5_spread) (jyr iX5_spread) ∈ jTbl := jinT6 (List.mem_of_getElem? (i := 148) rfl) rfl
theorem wiX5_spread : Cond.instanceMethod (jyn iX5_spread) ∈ jTbl := jinT6 (List.mem_of_getElem? (i := 146) rfl) rfl
theorem wlX5_spread : Cond.selects (jyn iX5_spread).cls (jyn iX5_spread) (jyn iX5_spread) ∈ jTbl := jinT6 (List.mem_of_getElem? (i := 147) rfl) rfl
theorem wpX5_spread : (jyn iX5_spread).cls ≠ "java/lang/invoke/MethodHandle" ∧ (jyn iX5_spread).cls ≠ "java/lang/invoke/VarHandle" ∧ (parseMethodDescriptor (jyn iX5_spread).desc).map (fun d => d.parameters.length) = some 1 := ⟨by decide +kernel, by decide +kernel, by decide +kernel⟩
theorem wcX5_bestFirst : Cond.code (jyn iX5_bestFirst) (jyc iX5_bestFirst) (jyl iX5_bestFirst) (jyr iX5_bestFirst) ∈ jTbl := jinT6 (List.mem_of_getElem? (i := 158) rfl) rfl
theorem wiX5_bestFirst : Cond.instanceMethod (jyn iX5_bestFirst) ∈ jTbl := jinT6 (List.mem_of_getElem? (i := 156) rfl) rfl
theorem wlX5_bestFirst : Cond.selects (jyn iX5_bestFirst).cls (jyn iX5_bestFirst) (jyn iX5_bestFirst) ∈ jTbl := jinT6 (List.mem_of_getElem? (i := 157) rfl) rfl
theorem wpX5_bestFirst : (jyn iX5_bestFirst).cls ≠ "java/lang/invoke/MethodHandle" ∧ (jyn iX5_bestFirst).cls ≠ "java/lang/invoke/VarHandle" ∧ (parseMethodDescriptor (jyn iX5_bestFirst).desc).map (fun d => d.parameters.length) = some 0 := ⟨by decide +kernel, by decide +kernel, by decide +kernel⟩
theorem wcX6_init : Cond.code (jyn iX6_init) (jyc iX6_init) (jyl iX6_init) (jyr iX6_init) ∈ jTbl := jinT1 (List.mem_of_getElem? (i := 39) rfl) rfl
theorem wiX6_init : Cond.instanceMethod (jyn iX6_init) ∈ jTbl := jinT1 (List.mem_of_getElem? (i := 38) rfl) rfl
theorem wnX6 : Cond.initialized RX6 ∈ jTbl := jinT1 (List.mem_of_getElem? (i := 3) rfl) rfl
theorem wpX6_init : (jyn iX6_init).cls ≠ "java/lang/invoke/MethodHandle" ∧ (jyn iX6_init).cls ≠ "java/lang/invoke/VarHandle" ∧ (parseMethodDescriptor (jyn iX6_init).desc).map (fun d => d.parameters.length) = some 0 := ⟨by decide +kernel, by decide +kernel, by decide +kernel⟩
theorem wcX6_append : Cond.code (jyn iX6_append) (jyc iX6_append) (jyl iX6_append) (jyr iX6_append) ∈ jTbl := jinT3 (List.mem_of_getElem? (i := 177) rfl) rfl
theorem wiX6_append : Cond.instanceMethod (jyn iX6_append) ∈ jTbl := jinT3 (List.mem_of_getElem? (i := 175) rfl) rfl
theorem wlX6_append : Cond.selects (jyn iX6_append).cls (jyn iX6_append) (jyn iX6_append) ∈ jTbl := jinT3 (List.mem_of_getElem? (i := 176) rfl) rfl
theorem wpX6_append : (jyn iX6_append).cls ≠ "java/lang/invoke/MethodHandle" ∧ (jyn iX6_append).cls ≠ "java/lang/invoke/VarHandle" ∧ (parseMethodDescriptor (jyn iX6_append).desc).map (fun d => d.parameters.length) = some 1 := ⟨by decide +kernel, by decide +kernel, by decide +kernel⟩
theorem wcX6_scan : Cond.code (jyn iX6_scan) (jyc iX6_scan) (jyl iX6_scan) (jyr iX6_scan) ∈ jTbl := jinT3 (List.mem_of_getElem? (i := 206) rfl) rfl
theorem wiX6_scan : Cond.instanceMethod (jyn iX6_scan) ∈ jTbl := jinT3 (List.mem_of_getElem? (i := 204) rfl) rfl
theorem wlX6_scan : Cond.selects (jyn iX6_scan).cls (jyn iX6_scan) (jyn iX6_scan) ∈ jTbl := jinT3 (List.mem_of_getElem? (i := 205) rfl) rfl
theorem wpX6_scan : (jyn iX6_scan).cls ≠ "java/lang/invoke/MethodHandle" ∧ (jyn iX6_scan).cls ≠ "java/lang/invoke/VarHandle" ∧ (parseMethodDescriptor (jyn iX6_scan).desc).map (fun d => d.parameters.length) = some 0 := ⟨by decide +kernel, by decide +kernel, by decide +kernel⟩
theorem wcX6_byteAt : Cond.code (jyn iX6_byteAt) (jyc iX6_byteAt) (jyl iX6_byteAt) (jyr iX6_byteAt) ∈ jTbl := jinT3 (List.mem_of_getElem? (i := 214) rfl) rfl
theorem wiX6_byteAt : Cond.instanceMethod (jyn iX6_byteAt) ∈ jTbl := jinT3 (List.mem_of_getElem? (i := 213) rfl) rfl
theorem wlX6_byteAt : Cond.selects (jyn iX6_byteAt).cls (jyn iX6_byteAt) (jyn iX6_byteAt) ∈ jTbl := jinS1 (x := (⟨"SchoolRides$Tape", "byteAt", "(I)I"⟩, 6)) 1 rfl
theorem wpX6_byteAt : (jyn iX6_byteAt).cls ≠ "java/lang/invoke/MethodHandle" ∧ (jyn iX6_byteAt).cls ≠ "java/lang/invoke/VarHandle" ∧ (parseMethodDescriptor (jyn iX6_byteAt).desc).map (fun d => d.parameters.length) = some 1 := ⟨by decide +kernel, by decide +kernel, by decide +kernel⟩
theorem wcX6_skipBlanks : Cond.code (jyn iX6_skipBlanks) (jyc iX6_skipBlanks) (jyl iX6_skipBlanks) (jyr iX6_skipBlanks) ∈ jTbl := jinT3 (List.mem_of_getElem? (i := 210) rfl) rfl
theorem wiX6_skipBlanks : Cond.instanceMethod (jyn iX6_skipBlanks) ∈ jTbl := jinT3 (List.mem_of_getElem? (i := 209) rfl) rfl
theorem wlX6_skipBlanks : Cond.selects (jyn iX6_skipBlanks).cls (jyn iX6_skipBlanks) (jyn iX6_skipBlanks) ∈ jTbl := jinS1 (x := (⟨"SchoolRides$Tape", "skipBlanks", "(I)I"⟩, 6)) 0 rfl
theorem wpX6_skipBlanks : (jyn iX6_skipBlanks).cls ≠ "java/lang/invoke/MethodHandle" ∧ (jyn iX6_skipBlanks).cls ≠ "java/lang/invoke/VarHandle" ∧ (parseMethodDescriptor (jyn iX6_skipBlanks).desc).map (fun d => d.parameters.length) = some 1 := ⟨by decide +kernel, by decide +kernel, by decide +kernel⟩
theorem wcX6_scanToken : Cond.code (jyn iX6_scanToken) (jyc iX6_scanToken) (jyl iX6_scanToken) (jyr iX6_scanToken) ∈ jTbl := jinT3 (List.mem_of_getElem? (i := 221) rfl) rfl
theorem wiX6_scanToken : Cond.instanceMethod (jyn iX6_scanToken) ∈ jTbl := jinT3 (List.mem_of_getElem? (i := 220) rfl) rfl
theorem wlX6_scanToken : Cond.selects (jyn iX6_scanToken).cls (jyn iX6_scanToken) (jyn iX6_scanToken) ∈ jTbl := jinS1 (x := (⟨"SchoolRides$Tape", "scanToken", "(II)I"⟩, 6)) 2 rfl
theorem wpX6_scanToken : (jyn iX6_scanToken).cls ≠ "java/lang/invoke/MethodHandle" ∧ (jyn iX6_scanToken).cls ≠ "java/lang/invoke/VarHandle" ∧ (parseMethodDescriptor (jyn iX6_scanToken).desc).map (fun d => d.parameters.length) = some 2 := ⟨by decide +kernel, by decide +kernel, by decide +kernel⟩
theorem wcX6_scanWord : Cond.code (jyn iX6_scanWord) (jyc iX6_scanWord) (jyl iX6_scanWord) (jyr iX6_scanWord) ∈ jTbl := jinT3 (List.mem_of_getElem? (i := 228) rfl) rfl
theorem wiX6_scanWord : Cond.instanceMethod (jyn iX6_scanWord) ∈ jTbl := jinT3 (List.mem_of_getElem? (i := 227) rfl) rfl
theorem wlX6_scanWord : Cond.selects (jyn iX6_scanWord).cls (jyn iX6_scanWord) (jyn iX6_scanWord) ∈ jTbl := jinS1 (x := (⟨"SchoolRides$Tape", "scanWord", "(II)I"⟩, 6)) 3 rfl
theorem wpX6_scanWord : (jyn iX6_scanWord).cls ≠ "java/lang/invoke/MethodHandle" ∧ (jyn iX6_scanWord).cls ≠ "java/lang/invoke/VarHandle" ∧ (parseMethodDescriptor (jyn iX6_scanWord).desc).map (fun d => d.parameters.length) = some 2 := ⟨by decide +kernel, by decide +kernel, by decide +kernel⟩
theorem wcX6_scanInt : Cond.code (jyn iX6_scanInt) (jyc iX6_scanInt) (jyl iX6_scanInt) (jyr iX6_scanInt) ∈ jTbl := jinT3 (List.mem_of_getElem? (i := 239) rfl) rfl
theorem wiX6_scanInt : Cond.instanceMethod (jyn iX6_scanInt) ∈ jTbl := jinT3 (List.mem_of_getElem? (i := 238) rfl) rfl
theorem wlX6_scanInt : Cond.selects (jyn iX6_scanInt).cls (jyn iX6_scanInt) (jyn iX6_scanInt) ∈ jTbl := jinS1 (x := (⟨"SchoolRides$Tape", "scanInt", "(II)I"⟩, 6)) 5 rfl
theorem wpX6_scanInt : (jyn iX6_scanInt).cls ≠ "java/lang/invoke/MethodHandle" ∧ (jyn iX6_scanInt).cls ≠ "java/lang/invoke/VarHandle" ∧ (parseMethodDescriptor (jyn iX6_scanInt).desc).map (fun d => d.parameters.length) = some 2 := ⟨by decide +kernel, by decide +kernel, by decide +kernel⟩
theorem wcX6_kindOfWord : Cond.code (jyn iX6_kindOfWord) (jyc iX6_kindOfWord) (jyl iX6_kindOfWord) (jyr iX6_kindOfWord) ∈ jTbl := jinT3 (List.mem_of_getElem? (i := 232) rfl) rfl
theorem wiX6_kindOfWord : Cond.instanceMethod (jyn iX6_kindOfWord) ∈ jTbl := jinT3 (List.mem_of_getElem? (i := 231) rfl) rfl
theorem wlX6_kindOfWord : Cond.selects (jyn iX6_kindOfWord).cls (jyn iX6_kindOfWord) (jyn iX6_kindOfWord) ∈ jTbl := jinS1 (x := (⟨"SchoolRides$Tape", "kindOfWord", "(J)I"⟩, 6)) 4 rfl
theorem wpX6_kindOfWord : (jyn iX6_kindOfWord).cls ≠ "java/lang/invoke/MethodHandle" ∧ (jyn iX6_kindOfWord).cls ≠ "java/lang/invoke/VarHandle" ∧ (parseMethodDescriptor (jyn iX6_kindOfWord).desc).map (fun d => d.parameters.length) = some 1 := ⟨by decide +kernel, by decide +kernel, by decide +kernel⟩
theorem wcX6_kindOfSign : Cond.code (jyn iX6_kindOfSign) (jyc iX6_kindOfSign) (jyl iX6_kindOfSign) (jyr iX6_kindOfSign) ∈ jTbl := jinT4 (List.mem_of_getElem? (i := 4) rfl) rfl
theorem wtX6_kindOfSign : Cond.static (jyn iX6_kindOfSign) ∈ jTbl := jinT4 (List.mem_of_getElem? (i := 3) rfl) rfl
theorem wpX6_kindOfSign : (jyn iX6_kindOfSign).cls ≠ "java/lang/invoke/MethodHandle" ∧ (jyn iX6_kindOfSign).cls ≠ "java/lang/invoke/VarHandle" ∧ (parseMethodDescriptor (jyn iX6_kindOfSign).desc).map (fun d => d.parameters.length) = some 2 := ⟨by decide +kernel, by decide +kernel, by decide +kernel⟩
theorem wcX6_withLetter : Cond.code (jyn iX6_withLetter) (jyc iX6_withLetter) (jyl iX6_withLetter) (jyr iX6_withLetter) ∈ jTbl := jinT1 (List.mem_of_getElem? (i := 84) rfl) rfl
theorem wtX6_withLetter : Cond.static (jyn iX6_withLetter) ∈ jTbl := jinT1 (List.mem_of_getElem? (i := 83) rfl) rfl
theorem wpX6_withLetter : (jyn iX6_withLetter).cls ≠ "java/lang/invoke/MethodHandle" ∧ (jyn iX6_withLetter).cls ≠ "java/lang/invoke/VarHandle" ∧ (parseMethodDescriptor (jyn iX6_withLetter).desc).map (fun d => d.parameters.length) = some 2 := ⟨by decide +kernel, by decide +kernel, by decide +kernel⟩
theorem wcX6_isBlank : Cond.code (jyn iX6_isBlank) (jyc iX6_isBlank) (jyl iX6_isBlank) (jyr iX6_isBlank) ∈ jTbl := jinT3 (List.mem_of_getElem? (i := 217) rfl) rfl
theorem wtX6_isBlank : Cond.static (jyn iX6_isBlank) ∈ jTbl := jinT3 (List.mem_of_getElem? (i := 216) rfl) rfl
theorem wpX6_isBlank : (jyn iX6_isBlank).cls ≠ "java/lang/invoke/MethodHandle" ∧ (jyn iX6_isBlank).cls ≠ "java/lang/invoke/VarHandle" ∧ (parseMethodDescriptor (jyn iX6_isBlank).desc).map (fun d => d.parameters.length) = some 1 := ⟨by decide +kernel, by decide +kernel, by decide +kernel⟩
theorem wcX6_isLetter : Cond.code (jyn iX6_isLetter) (jyc iX6_isLetter) (jyl iX6_isLetter) (jyr iX6_isLetter) ∈ jTbl := jinT3 (List.mem_of_getElem? (i := 224) rfl) rfl
theorem wtX6_isLetter : Cond.static (jyn iX6_isLetter) ∈ jTbl := jinT3 (List.mem_of_getElem? (i := 223) rfl) rfl
theorem wpX6_isLetter : (jyn iX6_isLetter).cls ≠ "java/lang/invoke/MethodHandle" ∧ (jyn iX6_isLetter).cls ≠ "java/lang/invoke/VarHandle" ∧ (parseMethodDescriptor (jyn iX6_isLetter).desc).map (fun d => d.parameters.length) = some 1 := ⟨by decide +kernel, by decide +kernel, by decide +kernel⟩
theorem wcX6_isDigit : Cond.code (jyn iX6_isDigit) (jyc iX6_isDigit) (jyl iX6_isDigit) (jyr iX6_isDigit) ∈ jTbl := jinT3 (List.mem_of_getElem? (i := 235) rfl) rfl
theorem wtX6_isDigit : Cond.static (jyn iX6_isDigit) ∈ jTbl := jinT3 (List.mem_of_getElem? (i := 234) rfl) rfl
theorem wpX6_isDigit : (jyn iX6_isDigit).cls ≠ "java/lang/invoke/MethodHandle" ∧ (jyn iX6_isDigit).cls ≠ "java/lang/invoke/VarHandle" ∧ (parseMethodDescriptor (jyn iX6_isDigit).desc).map (fun d => d.parameters.length) = some 1 := ⟨by decide +kernel, by decide +kernel, by decide +kernel⟩
theorem wcX7_init : Cond.code (jyn iX7_init) (jyc iX7_init) (jyl iX7_init) (jyr iX7_init) ∈ jTbl := jinT3 (List.mem_of_getElem? (i := 35) rfl) rfl
theorem wiX7_init : Cond.instanceMethod (jyn iX7_init) ∈ jTbl := jinT3 (List.mem_of_getElem? (i := 34) rfl) rfl
theorem wnX7 : Cond.initialized RX7 ∈ jTbl := jinT1 (List.mem_of_getElem? (i := 13) rfl) rfl
theorem wpX7_init : (jyn iX7_init).cls ≠ "java/lang/invoke/MethodHandle" ∧ (jyn iX7_init).cls ≠ "java/lang/invoke/VarHandle" ∧ (parseMethodDescriptor (jyn iX7_init).desc).map (fun d => d.parameters.length) = some 0 := ⟨by decide +kernel, by decide +kernel, by decide +kernel⟩
theorem wcX7_add : Cond.code (jyn iX7_add) (jyc iX7_add) (jyl iX7_add) (jyr iX7_add) ∈ jTbl := jinT6 (List.mem_of_getElem? (i := 39) rfl) rfl
theorem wiX7_add : Cond.instanceMethod (jyn iX7_add) ∈ jTbl := jinT6 (List.mem_of_getElem? (i := 37) rfl) rfl
theorem wlX7_add : Cond.selects (jyn iX7_add).cls (jyn iX7_add) (jyn iX7_add) ∈ jTbl := jinT6 (List.mem_of_getElem? (i := 38) rfl) rfl
theorem wpX7_add : (jyn iX7_add).cls ≠ "java/lang/invoke/MethodHandle" ∧ (jyn iX7_add).cls ≠ "java/lang/invoke/VarHandle" ∧ (parseMethodDescriptor (jyn iX7_add).desc).map (fun d => d.parameters.length) = some 3 := ⟨by decide +kernel, by decide +kernel, by decide +kernel⟩
theorem wcX7_solve : Cond.code (jyn iX7_solve) (jyc iX7_solve) (jyl iX7_solve) (jyr iX7_solve) ∈ jTbl := jinT6 (List.mem_of_getElem? (i := 53) rfl) rfl
theorem wiX7_solve : Cond.instanceMethod (jyn iX7_solve) ∈ jTbl := jinT6 (List.mem_of_getElem? (i := 51) rfl) rfl
theorem wlX7_solve : Cond.selects (jyn iX7_solve).cls (jyn iX7_solve) (jyn iX7_solve) ∈ jTbl := jinT6 (List.mem_of_getElem? (i := 52) rfl) rfl
theorem wpX7_solve : (jyn iX7_solve).cls ≠ "java/lang/invoke/MethodHandle" ∧ (jyn iX7_solve).cls ≠ "java/lang/invoke/VarHandle" ∧ (parseMethodDescriptor (jyn iX7_solve).desc).map (fun d => d.parameters.length) = some 2 := ⟨by decide +kernel, by decide +kernel, by decide +kernel⟩
theorem wcX7_markReached : Cond.code (jyn iX7_markReached) (jyc iX7_markReached) (jyl iX7_markReached) (jyr iX7_markReached) ∈ jTbl := jinT6 (List.mem_of_getElem? (i := 57) rfl) rfl
theorem wiX7_markReached : Cond.instanceMethod (jyn iX7_markReached) ∈ jTbl := jinT6 (List.mem_of_getElem? (i := 56) rfl) rfl
theorem wlX7_markReached : Cond.selects (jyn iX7_markReached).cls (jyn iX7_markReached) (jyn iX7_markReached) ∈ jTbl := jinS5 (x := (⟨"SchoolRides$Tender", "markReached", "(II)V"⟩, 9)) 2 rfl
theorem wpX7_markReached : (jyn iX7_markReached).cls ≠ "java/lang/invoke/MethodHandle" ∧ (jyn iX7_markReached).cls ≠ "java/lang/invoke/VarHandle" ∧ (parseMethodDescriptor (jyn iX7_markReached).desc).map (fun d => d.parameters.length) = some 2 := ⟨by decide +kernel, by decide +kernel, by decide +kernel⟩
theorem wcX7_fits : Cond.code (jyn iX7_fits) (jyc iX7_fits) (jyl iX7_fits) (jyr iX7_fits) ∈ jTbl := jinT6 (List.mem_of_getElem? (i := 61) rfl) rfl
theorem wiX7_fits : Cond.instanceMethod (jyn iX7_fits) ∈ jTbl := jinT6 (List.mem_of_getElem? (i := 60) rfl) rfl
theorem wlX7_fits : Cond.selects (jyn iX7_fits).cls (jyn iX7_fits) (jyn iX7_fits) ∈ jTbl := jinS5 (x := (⟨"SchoolRides$Tender", "fits", "(III)Z"⟩, 9)) 3 rfl
theorem wpX7_fits : (jyn iX7_fits).cls ≠ "java/lang/invoke/MethodHandle" ∧ (jyn iX7_fits).cls ≠ "java/lang/invoke/VarHandle" ∧ (parseMethodDescriptor (jyn iX7_fits).desc).map (fun d => d.parameters.length) = some 3 := ⟨by decide +kernel, by decide +kernel, by decide +kernel⟩
theorem wcX7_choose : Cond.code (jyn iX7_choose) (jyc iX7_choose) (jyl iX7_choose) (jyr iX7_choose) ∈ jTbl := jinT6 (List.mem_of_getElem? (i := 65) rfl) rfl
theorem wiX7_choose : Cond.instanceMethod (jyn iX7_choose) ∈ jTbl := jinT6 (List.mem_of_getElem? (i := 64) rfl) rfl
theorem wlX7_choose : Cond.selects (jyn iX7_choose).cls (jyn iX7_choose) (jyn iX7_choose) ∈ jTbl := jinS5 (x := (⟨"SchoolRides$Tender", "choose", "(II)V"⟩, 9)) 4 rfl
theorem wpX7_choose : (jyn iX7_choose).cls ≠ "java/lang/invoke/MethodHandle" ∧ (jyn iX7_choose).cls ≠ "java/lang/invoke/VarHandle" ∧ (parseMethodDescriptor (jyn iX7_choose).desc).map (fun d => d.parameters.length) = some 2 := ⟨by decide +kernel, by decide +kernel, by decide +kernel⟩
theorem wcX7_bidOn : Cond.code (jyn iX7_bidOn) (jyc iX7_bidOn) (jyl iX7_bidOn) (jyr iX7_bidOn) ∈ jTbl := jinT6 (List.mem_of_getElem? (i := 74) rfl) rfl
theorem wiX7_bidOn : Cond.instanceMethod (jyn iX7_bidOn) ∈ jTbl := jinT6 (List.mem_of_getElem? (i := 72) rfl) rfl
theorem wlX7_bidOn : Cond.selects (jyn iX7_bidOn).cls (jyn iX7_bidOn) (jyn iX7_bidOn) ∈ jTbl := jinT6 (List.mem_of_getElem? (i := 73) rfl) rfl
theorem wpX7_bidOn : (jyn iX7_bidOn).cls ≠ "java/lang/invoke/MethodHandle" ∧ (jyn iX7_bidOn).cls ≠ "java/lang/invoke/VarHandle" ∧ (parseMethodDescriptor (jyn iX7_bidOn).desc).map (fun d => d.parameters.length) = some 2 := ⟨by decide +kernel, by decide +kernel, by decide +kernel⟩
theorem wcX8_init : Cond.code (jyn iX8_init) (jyc iX8_init) (jyl iX8_init) (jyr iX8_init) ∈ jTbl := jinT1 (List.mem_of_getElem? (i := 221) rfl) rfl
theorem wiX8_init : Cond.instanceMethod (jyn iX8_init) ∈ jTbl := jinT1 (List.mem_of_getElem? (i := 220) rfl) rfl
theorem wnX8 : Cond.initialized RX8 ∈ jTbl := jinT1 (List.mem_of_getElem? (i := 10) rfl) rfl
theorem wpX8_init : (jyn iX8_init).cls ≠ "java/lang/invoke/MethodHandle" ∧ (jyn iX8_init).cls ≠ "java/lang/invoke/VarHandle" ∧ (parseMethodDescriptor (jyn iX8_init).desc).map (fun d => d.parameters.length) = some 0 := ⟨by decide +kernel, by decide +kernel, by decide +kernel⟩
theorem wcX8_clear : Cond.code (jyn iX8_clear) (jyc iX8_clear) (jyl iX8_clear) (jyr iX8_clear) ∈ jTbl := jinT3 (List.mem_of_getElem? (i := 199) rfl) rfl
theorem wiX8_clear : Cond.instanceMethod (jyn iX8_clear) ∈ jTbl := jinT3 (List.mem_of_getElem? (i := 197) rfl) rfl
theorem wlX8_clear : Cond.selects (jyn iX8_clear).cls (jyn iX8_clear) (jyn iX8_clear) ∈ jTbl := jinT3 (List.mem_of_getElem? (i := 198) rfl) rfl
theorem wpX8_clear : (jyn iX8_clear).cls ≠ "java/lang/invoke/MethodHandle" ∧ (jyn iX8_clear).cls ≠ "java/lang/invoke/VarHandle" ∧ (parseMethodDescriptor (jyn iX8_clear).desc).map (fun d => d.parameters.length) = some 0 := ⟨by decide +kernel, by decide +kernel, by decide +kernel⟩
theorem wcX8_addWay : Cond.code (jyn iX8_addWay) (jyc iX8_addWay) (jyl iX8_addWay) (jyr iX8_addWay) ∈ jTbl := jinT4 (List.mem_of_getElem? (i := 60) rfl) rfl
theorem wiX8_addWay : Cond.instanceMethod (jyn iX8_addWay) ∈ jTbl := jinT4 (List.mem_of_getElem? (i := 58) rfl) rfl
theorem wlX8_addWay : Cond.selects (jyn iX8_addWay).cls (jyn iX8_addWay) (jyn iX8_addWay) ∈ jTbl := jinT4 (List.mem_of_getElem? (i := 59) rfl) rfl
theorem wpX8_addWay : (jyn iX8_addWay).cls ≠ "java/lang/invoke/MethodHandle" ∧ (jyn iX8_addWay).cls ≠ "java/lang/invoke/VarHandle" ∧ (parseMethodDescriptor (jyn iX8_addWay).desc).map (fun d => d.parameters.length) = some 5 := ⟨by decide +kernel, by decide +kernel, by decide +kernel⟩
theorem wcX8_addSchool : Cond.code (jyn iX8_addSchool) (jyc iX8_addSchool) (jyl iX8_addSchool) (jyr iX8_addSchool) ∈ jTbl := jinT4 (List.mem_of_getElem? (i := 68) rfl) rfl
theorem wiX8_addSchool : Cond.instanceMethod (jyn iX8_addSchool) ∈ jTbl := jinT4 (List.mem_of_getElem? (i := 66) rfl) rfl
theorem wlX8_addSchool : Cond.selects (jyn iX8_addSchool).cls (jyn iX8_addSchool) (jyn iX8_addSchool) ∈ jTbl := jinT4 (List.mem_of_getElem? (i := 67) rfl) rfl
theorem wpX8_addSchool : (jyn iX8_addSchool).cls ≠ "java/lang/invoke/MethodHandle" ∧ (jyn iX8_addSchool).cls ≠ "java/lang/invoke/VarHandle" ∧ (parseMethodDescriptor (jyn iX8_addSchool).desc).map (fun d => d.parameters.length) = some 2 := ⟨by decide +kernel, by decide +kernel, by decide +kernel⟩
theorem wcX8_addStop : Cond.code (jyn iX8_addStop) (jyc iX8_addStop) (jyl iX8_addStop) (jyr iX8_addStop) ∈ jTbl := jinT4 (List.mem_of_getElem? (i := 76) rfl) rfl
theorem wiX8_addStop : Cond.instanceMethod (jyn iX8_addStop) ∈ jTbl := jinT4 (List.mem_of_getElem? (i := 74) rfl) rfl
theorem wlX8_addStop : Cond.selects (jyn iX8_addStop).cls (jyn iX8_addStop) (jyn iX8_addStop) ∈ jTbl := jinT4 (List.mem_of_getElem? (i := 75) rfl) rfl
theorem wpX8_addStop : (jyn iX8_addStop).cls ≠ "java/lang/invoke/MethodHandle" ∧ (jyn iX8_addStop).cls ≠ "java/lang/invoke/VarHandle" ∧ (parseMethodDescriptor (jyn iX8_addStop).desc).map (fun d => d.parameters.length) = some 1 := ⟨by decide +kernel, by decide +kernel, by decide +kernel⟩
theorem wcX8_addCode : Cond.code (jyn iX8_addCode) (jyc iX8_addCode) (jyl iX8_addCode) (jyr iX8_addCode) ∈ jTbl := jinT4 (List.mem_of_getElem? (i := 96) rfl) rfl
theorem wiX8_addCode : Cond.instanceMethod (jyn iX8_addCode) ∈ jTbl := jinT4 (List.mem_of_getElem? (i := 94) rfl) rfl
theorem wlX8_addCode : Cond.selects (jyn iX8_addCode).cls (jyn iX8_addCode) (jyn iX8_addCode) ∈ jTbl := jinT4 (List.mem_of_getElem? (i := 95) rfl) rfl
theorem wpX8_addCode : (jyn iX8_addCode).cls ≠ "java/lang/invoke/MethodHandle" ∧ (jyn iX8_addCode).cls ≠ "java/lang/invoke/VarHandle" ∧ (parseMethodDescriptor (jyn iX8_addCode).desc).map (fun d => d.parameters.length) = some 1 := ⟨by decide +kernel, by decide +kernel, by decide +kernel⟩
theorem wcX8_endRight : Cond.code (jyn iX8_endRight) (jyc iX8_endRight) (jyl iX8_endRight) (jyr iX8_endRight) ∈ jTbl := jinT4 (List.mem_of_getElem? (i := 118) rfl) rfl
theorem wiX8_endRight : Cond.instanceMethod (jyn iX8_endRight) ∈ jTbl := jinT4 (List.mem_of_getElem? (i := 116) rfl) rfl
theorem wlX8_endRight : Cond.selects (jyn iX8_endRight).cls (jyn iX8_endRight) (jyn iX8_endRight) ∈ jTbl := jinT4 (List.mem_of_getElem? (i := 117) rfl) rfl
theorem wpX8_endRight : (jyn iX8_endRight).cls ≠ "java/lang/invoke/MethodHandle" ∧ (jyn iX8_endRight).cls ≠ "java/lang/invoke/VarHandle" ∧ (parseMethodDescriptor (jyn iX8_endRight).desc).map (fun d => d.parameters.length) = some 0 := ⟨by decide +kernel, by decide +kernel, by decide +kernel⟩
theorem wcX8_firstRight : Cond.code (jyn iX8_firstRight) (jyc iX8_firstRight) (jyl iX8_firstRight) (jyr iX8_firstRight) ∈ jTbl := jinT5 (List.mem_of_getElem? (i := 32) rfl) rfl
theorem wiX8_firstRight : Cond.instanceMethod (jyn iX8_firstRight) ∈ jTbl := jinT5 (List.mem_of_getElem? (i := 30) rfl) rfl
theorem wlX8_firstRight : Cond.selects (jyn iX8_firstRight).cls (jyn iX8_firstRight) (jyn iX8_firstRight) ∈ jTbl := jinT5 (List.mem_of_getElem? (i := 31) rfl) rfl
theorem wpX8_firstRight : (jyn iX8_firstRight).cls ≠ "java/lang/invoke/MethodHandle" ∧ (jyn iX8_firstRight).cls ≠ "java/lang/invoke/VarHandle" ∧ (parseMethodDescriptor (jyn iX8_firstRight).desc).map (fun d => d.parameters.length) = some 1 := ⟨by decide +kernel, by decide +kernel, by decide +kernel⟩
theorem wcX8_holds : Cond.code (jyn iX8_holds) (jyc iX8_holds) (jyl iX8_holds) (jyr iX8_holds) ∈ jTbl := jinT5 (List.mem_of_getElem? (i := 36) rfl) rfl
theorem wiX8_holds : Cond.instanceMethod (jyn iX8_holds) ∈ jTbl := jinT5 (List.mem_of_getElem? (i := 35) rfl) rfl
theorem wlX8_holds : Cond.selects (jyn iX8_holds).cls (jyn iX8_holds) (jyn iX8_holds) ∈ jTbl := jinS3 (x := (⟨"SchoolRides$Text", "holds", "(II[I)Z"⟩, 19)) 7 rfl
theorem wpX8_holds : (jyn iX8_holds).cls ≠ "java/lang/invoke/MethodHandle" ∧ (jyn iX8_holds).cls ≠ "java/lang/invoke/VarHandle" ∧ (parseMethodDescriptor (jyn iX8_holds).desc).map (fun d => d.parameters.length) = some 3 := ⟨by decide +kernel, by decide +kernel, by decide +kernel⟩
theorem wcX8_combine : Cond.code (jyn iX8_combine) (jyc iX8_combine) (jyl iX8_combine) (jyr iX8_combine) ∈ jTbl := jinT5 (List.mem_of_getElem? (i := 39) rfl) rfl
theorem wtX8_combine : Cond.static (jyn iX8_combine) ∈ jTbl := jinT5 (List.mem_of_getElem? (i := 38) rfl) rfl
theorem wpX8_combine : (jyn iX8_combine).cls ≠ "java/lang/invoke/MethodHandle" ∧ (jyn iX8_combine).cls ≠ "java/lang/invoke/VarHandle" ∧ (parseMethodDescriptor (jyn iX8_combine).desc).map (fun d => d.parameters.length) = some 3 := ⟨by decide +kernel, by decide +kernel, by decide +kernel⟩
theorem wcX9_init : Cond.code (jyn iX9_init) (jyc iX9_init) (jyl iX9_init) (jyr iX9_init) ∈ jTbl := jinT1 (List.mem_of_getElem? (i := 166) rfl) rfl
theorem wiX9_init : Cond.instanceMethod (jyn iX9_init) ∈ jTbl := jinT1 (List.mem_of_getElem? (i := 165) rfl) rfl
theorem wnX9 : Cond.initialized RX9 ∈ jTbl := jinT1 (List.mem_of_getElem? (i := 8) rfl) rfl
theorem wpX9_init : (jyn iX9_init).cls ≠ "java/lang/invoke/MethodHandle" ∧ (jyn iX9_init).cls ≠ "java/lang/invoke/VarHandle" ∧ (parseMethodDescriptor (jyn iX9_init).desc).map (fun d => d.parameters.length) = some 0 := ⟨by decide +kernel, by decide +kernel, by decide +kernel⟩
theorem wcX9_turn : Cond.code (jyn iX9_turn) (jyc iX9_turn) (jyl iX9_turn) (jyr iX9_turn) ∈ jTbl := jinT4 (List.mem_of_getElem? (i := 221) rfl) rfl
theorem wiX9_turn : Cond.instanceMethod (jyn iX9_turn) ∈ jTbl := jinT4 (List.mem_of_getElem? (i := 219) rfl) rfl
theorem wlX9_turn : Cond.selects (jyn iX9_turn).cls (jyn iX9_turn) (jyn iX9_turn) ∈ jTbl := jinT4 (List.mem_of_getElem? (i := 220) rfl) rfl
theorem wpX9_turn : (jyn iX9_turn).cls ≠ "java/lang/invoke/MethodHandle" ∧ (jyn iX9_turn).cls ≠ "java/lang/invoke/VarHandle" ∧ (parseMethodDescriptor (jyn iX9_turn).desc).map (fun d => d.parameters.length) = some 3 := ⟨by decide +kernel, by decide +kernel, by decide +kernel⟩
theorem wcX9_findUsableWays : Cond.code (jyn iX9_findUsableWays) (jyc iX9_findUsableWays) (jyl iX9_findUsableWays) (jyr iX9_findUsableWays) ∈ jTbl := jinT4 (List.mem_of_getElem? (i := 228) rfl) rfl
theorem wiX9_findUsableWays : Cond.instanceMethod (jyn iX9_findUsableWays) ∈ jTbl := jinT4 (List.mem_of_getElem? (i := 227) rfl) rfl
theorem wlX9_findUsableWays : Cond.selects (jyn iX9_findUsableWays).cls (jyn iX9_findUsableWays) (jyn iX9_findUsableWays) ∈ jTbl := jinS3 (x := (⟨"SchoolRides$View", "findUsableWays", "()V"⟩, 15)) 3 rfl
theorem wpX9_findUsableWays : (jyn iX9_findUsableWays).cls ≠ "java/lang/invoke/MethodHandle" ∧ (jyn iX9_findUsableWays).cls ≠ "java/lang/invoke/VarHandle" ∧ (parseMethodDescriptor (jyn iX9_findUsableWays).desc).map (fun d => d.parameters.length) = some 0 := ⟨by decide +kernel, by decide +kernel, by decide +kernel⟩
theorem wcX9_sumOf : Cond.code (jyn iX9_sumOf) (jyc iX9_sumOf) (jyl iX9_sumOf) (jyr iX9_sumOf) ∈ jTbl := jinT4 (List.mem_of_getElem? (i := 233) rfl) rfl
theorem wiX9_sumOf : Cond.instanceMethod (jyn iX9_sumOf) ∈ jTbl := jinT4 (List.mem_of_getElem? (i := 231) rfl) rfl
theorem wlX9_sumOf : Cond.selects (jyn iX9_sumOf).cls (jyn iX9_sumOf) (jyn iX9_sumOf) ∈ jTbl := jinT4 (List.mem_of_getElem? (i := 232) rfl) rfl
theorem wpX9_sumOf : (jyn iX9_sumOf).cls ≠ "java/lang/invoke/MethodHandle" ∧ (jyn iX9_sumOf).cls ≠ "java/lang/invoke/VarHandle" ∧ (parseMethodDescriptor (jyn iX9_sumOf).desc).map (fun d => d.parameters.length) = some 3 := ⟨by decide +kernel, by decide +kernel, by decide +kernel⟩
theorem wcX9_findSums : Cond.code (jyn iX9_findSums) (jyc iX9_findSums) (jyl iX9_findSums) (jyr iX9_findSums) ∈ jTbl := jinT4 (List.mem_of_getElem? (i := 238) rfl) rfl
theorem wiX9_findSums : Cond.instanceMethod (jyn iX9_findSums) ∈ jTbl := jinT4 (List.mem_of_getElem? (i := 237) rfl) rfl
theorem wlX9_findSums : Cond.selects (jyn iX9_findSums).cls (jyn iX9_findSums) (jyn iX9_findSums) ∈ jTbl := jinS3 (x := (⟨"SchoolRides$View", "findSums", "(II)V"⟩, 15)) 4 rfl
theorem wpX9_findSums : (jyn iX9_findSums).cls ≠ "java/lang/invoke/MethodHandle" ∧ (jyn iX9_findSums).cls ≠ "java/lang/invoke/VarHandle" ∧ (parseMethodDescriptor (jyn iX9_findSums).desc).map (fun d => d.parameters.length) = some 2 := ⟨by decide +kernel, by decide +kernel, by decide +kernel⟩
theorem wcX9_placeInRow : Cond.code (jyn iX9_placeInRow) (jyc iX9_placeInRow) (jyl iX9_placeInRow) (jyr iX9_placeInRow) ∈ jTbl := jinT5 (List.mem_of_getElem? (i := 7) rfl) rfl
theorem wiX9_placeInRow : Cond.instanceMethod (jyn iX9_placeInRow) ∈ jTbl := jinT5 (List.mem_of_getElem? (i := 5) rfl) rfl
theorem wlX9_placeInRow : Cond.selects (jyn iX9_placeInRow).cls (jyn iX9_placeInRow) (jyn iX9_placeInRow) ∈ jTbl := jinT5 (List.mem_of_getElem? (i := 6) rfl) rfl
theorem wpX9_placeInRow : (jyn iX9_placeInRow).cls ≠ "java/lang/invoke/MethodHandle" ∧ (jyn iX9_placeInRow).cls ≠ "java/lang/invoke/VarHandle" ∧ (parseMethodDescriptor (jyn iX9_placeInRow).desc).map (fun d => d.parameters.length) = some 4 := ⟨by decide +kernel, by decide +kernel, by decide +kernel⟩
theorem wcX9_nextPlace : Cond.code (jyn iX9_nextPlace) (jyc iX9_nextPlace) (jyl iX9_nextPlace) (jyr iX9_nextPlace) ∈ jTbl := jinT5 (List.mem_of_getElem? (i := 12) rfl) rfl
theorem wiX9_nextPlace : Cond.instanceMethod (jyn iX9_nextPlace) ∈ jTbl := jinT5 (List.mem_of_getElem? (i := 11) rfl) rfl
theorem wlX9_nextPlace : Cond.selects (jyn iX9_nextPlace).cls (jyn iX9_nextPlace) (jyn iX9_nextPlace) ∈ jTbl := jinS3 (x := (⟨"SchoolRides$View", "nextPlace", "(III)I"⟩, 15)) 5 rfl
theorem wpX9_nextPlace : (jyn iX9_nextPlace).cls ≠ "java/lang/invoke/MethodHandle" ∧ (jyn iX9_nextPlace).cls ≠ "java/lang/invoke/VarHandle" ∧ (parseMethodDescriptor (jyn iX9_nextPlace).desc).map (fun d => d.parameters.length) = some 3 := ⟨by decide +kernel, by decide +kernel, by decide +kernel⟩
theorem wcX9_otherEnd : Cond.code (jyn iX9_otherEnd) (jyc iX9_otherEnd) (jyl iX9_otherEnd) (jyr iX9_otherEnd) ∈ jTbl := jinT5 (List.mem_of_getElem? (i := 16) rfl) rfl
theorem wiX9_otherEnd : Cond.instanceMethod (jyn iX9_otherEnd) ∈ jTbl := jinT5 (List.mem_of_getElem? (i := 15) rfl) rfl
theorem wlX9_otherEnd : Cond.selects (jyn iX9_otherEnd).cls (jyn iX9_otherEnd) (jyn iX9_otherEnd) ∈ jTbl := jinS3 (x := (⟨"SchoolRides$View", "otherEnd", "(II)I"⟩, 15)) 6 rfl
theorem wpX9_otherEnd : (jyn iX9_otherEnd).cls ≠ "java/lang/invoke/MethodHandle" ∧ (jyn iX9_otherEnd).cls ≠ "java/lang/invoke/VarHandle" ∧ (parseMethodDescriptor (jyn iX9_otherEnd).desc).map (fun d => d.parameters.length) = some 2 := ⟨by decide +kernel, by decide +kernel, by decide +kernel⟩
theorem wcX9_judgeAll : Cond.code (jyn iX9_judgeAll) (jyc iX9_judgeAll) (jyl iX9_judgeAll) (jyr iX9_judgeAll) ∈ jTbl := jinT5 (List.mem_of_getElem? (i := 55) rfl) rfl
theorem wiX9_judgeAll : Cond.instanceMethod (jyn iX9_judgeAll) ∈ jTbl := jinT5 (List.mem_of_getElem? (i := 53) rfl) rfl
theorem wlX9_judgeAll : Cond.selects (jyn iX9_judgeAll).cls (jyn iX9_judgeAll) (jyn iX9_judgeAll) ∈ jTbl := jinT5 (List.mem_of_getElem? (i := 54) rfl) rfl
theorem wpX9_judgeAll : (jyn iX9_judgeAll).cls ≠ "java/lang/invoke/MethodHandle" ∧ (jyn iX9_judgeAll).cls ≠ "java/lang/invoke/VarHandle" ∧ (parseMethodDescriptor (jyn iX9_judgeAll).desc).map (fun d => d.parameters.length) = some 0 := ⟨by decide +kernel, by decide +kernel, by decide +kernel⟩
theorem wcX9_judge : Cond.code (jyn iX9_judge) (jyc iX9_judge) (jyl iX9_judge) (jyr iX9_judge) ∈ jTbl := jinT5 (List.mem_of_getElem? (i := 24) rfl) rfl
theorem wiX9_judge : Cond.instanceMethod (jyn iX9_judge) ∈ jTbl := jinT5 (List.mem_of_getElem? (i := 22) rfl) rfl
theorem wlX9_judge : Cond.selects (jyn iX9_judge).cls (jyn iX9_judge) (jyn iX9_judge) ∈ jTbl := jinT5 (List.mem_of_getElem? (i := 23) rfl) rfl
theorem wpX9_judge : (jyn iX9_judge).cls ≠ "java/lang/invoke/MethodHandle" ∧ (jyn iX9_judge).cls ≠ "java/lang/invoke/VarHandle" ∧ (parseMethodDescriptor (jyn iX9_judge).desc).map (fun d => d.parameters.length) = some 1 := ⟨by decide +kernel, by decide +kernel, by decide +kernel⟩
theorem wcX9_orNotReached : Cond.code (jyn iX9_orNotReached) (jyc iX9_orNotReached) (jyl iX9_orNotReached) (jyr iX9_orNotReached) ∈ jTbl := jinT5 (List.mem_of_getElem? (i := 28) rfl) rfl
theorem wtX9_orNotReached : Cond.static (jyn iX9_orNotReached) ∈ jTbl := jinT5 (List.mem_of_getElem? (i := 27) rfl) rfl
theorem wpX9_orNotReached : (jyn iX9_orNotReached).cls ≠ "java/lang/invoke/MethodHandle" ∧ (jyn iX9_orNotReached).cls ≠ "java/lang/invoke/VarHandle" ∧ (parseMethodDescriptor (jyn iX9_orNotReached).desc).map (fun d => d.parameters.length) = some 1 := ⟨by decide +kernel, by decide +kernel, by decide +kernel⟩
theorem wcX9_nearestStop : Cond.code (jyn iX9_nearestStop) (jyc iX9_nearestStop) (jyl iX9_nearestStop) (jyr iX9_nearestStop) ∈ jTbl := jinT5 (List.mem_of_getElem? (i := 43) rfl) rfl
theorem wiX9_nearestStop : Cond.instanceMethod (jyn iX9_nearestStop) ∈ jTbl := jinT5 (List.mem_of_getElem? (i := 42) rfl) rfl
theorem wlX9_nearestStop : Cond.selects (jyn iX9_nearestStop).cls (jyn iX9_nearestStop) (jyn iX9_nearestStop) ∈ jTbl := jinS3 (x := (⟨"SchoolRides$View", "nearestStop", "(I)I"⟩, 15)) 8 rfl
theorem wpX9_nearestStop : (jyn iX9_nearestStop).cls ≠ "java/lang/invoke/MethodHandle" ∧ (jyn iX9_nearestStop).cls ≠ "java/lang/invoke/VarHandle" ∧ (parseMethodDescriptor (jyn iX9_nearestStop).desc).map (fun d => d.parameters.length) = some 1 := ⟨by decide +kernel, by decide +kernel, by decide +kernel⟩
theorem wcX10_init : Cond.code (jyn iX10_init) (jyc iX10_init) (jyl iX10_init) (jyr iX10_init) ∈ jTbl := jinT1 (List.mem_of_getElem? (i := 25) rfl) rfl
theorem wiX10_init : Cond.instanceMethod (jyn iX10_init) ∈ jTbl := jinT1 (List.mem_of_getElem? (i := 24) rfl) rfl
theorem wnX10 : Cond.initialized RX10 ∈ jTbl := jinT1 (List.mem_of_getElem? (i := 1) rfl) rfl
theorem wpX10_init : (jyn iX10_init).cls ≠ "java/lang/invoke/MethodHandle" ∧ (jyn iX10_init).cls ≠ "java/lang/invoke/VarHandle" ∧ (parseMethodDescriptor (jyn iX10_init).desc).map (fun d => d.parameters.length) = some 0 := ⟨by decide +kernel, by decide +kernel, by decide +kernel⟩
theorem wcX10_feed : Cond.code (jyn iX10_feed) (jyc iX10_feed) (jyl iX10_feed) (jyr iX10_feed) ∈ jTbl := jinT3 (List.mem_of_getElem? (i := 173) rfl) rfl
theorem wiX10_feed : Cond.instanceMethod (jyn iX10_feed) ∈ jTbl := jinT3 (List.mem_of_getElem? (i := 171) rfl) rfl
theorem wlX10_feed : Cond.selects (jyn iX10_feed).cls (jyn iX10_feed) (jyn iX10_feed) ∈ jTbl := jinT3 (List.mem_of_getElem? (i := 172) rfl) rfl
theorem wpX10_feed : (jyn iX10_feed).cls ≠ "java/lang/invoke/MethodHandle" ∧ (jyn iX10_feed).cls ≠ "java/lang/invoke/VarHandle" ∧ (parseMethodDescriptor (jyn iX10_feed).desc).map (fun d => d.parameters.length) = some 5 := ⟨by decide +kernel, by decide +kernel, by decide +kernel⟩
theorem wcX10_back : Cond.code (jyn iX10_back) (jyc iX10_back) (jyl iX10_back) (jyr iX10_back) ∈ jTbl := jinT3 (List.mem_of_getElem? (i := 181) rfl) rfl
theorem wiX10_back : Cond.instanceMethod (jyn iX10_back) ∈ jTbl := jinT3 (List.mem_of_getElem? (i := 179) rfl) rfl
theorem wlX10_back : Cond.selects (jyn iX10_back).cls (jyn iX10_back) (jyn iX10_back) ∈ jTbl := jinT3 (List.mem_of_getElem? (i := 180) rfl) rfl
theorem wpX10_back : (jyn iX10_back).cls ≠ "java/lang/invoke/MethodHandle" ∧ (jyn iX10_back).cls ≠ "java/lang/invoke/VarHandle" ∧ (parseMethodDescriptor (jyn iX10_back).desc).map (fun d => d.parameters.length) = some 1 := ⟨by decide +kernel, by decide +kernel, by decide +kernel⟩
theorem wcX10_read : Cond.code (jyn iX10_read) (jyc iX10_read) (jyl iX10_read) (jyr iX10_read) ∈ jTbl := jinT3 (List.mem_of_getElem? (i := 185) rfl) rfl
theorem wiX10_read : Cond.instanceMethod (jyn iX10_read) ∈ jTbl := jinT3 (List.mem_of_getElem? (i := 183) rfl) rfl
theorem wlX10_read : Cond.selects (jyn iX10_read).cls (jyn iX10_read) (jyn iX10_read) ∈ jTbl := jinT3 (List.mem_of_getElem? (i := 184) rfl) rfl
theorem wpX10_read : (jyn iX10_read).cls ≠ "java/lang/invoke/MethodHandle" ∧ (jyn iX10_read).cls ≠ "java/lang/invoke/VarHandle" ∧ (parseMethodDescriptor (jyn iX10_read).desc).map (fun d => d.parameters.length) = some 1 := ⟨by decide +kernel, by decide +kernel, by decide +kernel⟩
theorem wcX10_place : Cond.code (jyn iX10_place) (jyc iX10_place) (jyl iX10_place) (jyr iX10_place) ∈ jTbl := jinT4 (List.mem_of_getElem? (i := 130) rfl) rfl
theorem wiX10_place : Cond.instanceMethod (jyn iX10_place) ∈ jTbl := jinT4 (List.mem_of_getElem? (i := 128) rfl) rfl
theorem wlX10_place : Cond.selects (jyn iX10_place).cls (jyn iX10_place) (jyn iX10_place) ∈ jTbl := jinT4 (List.mem_of_getElem? (i := 129) rfl) rfl
theorem wpX10_place : (jyn iX10_place).cls ≠ "java/lang/invoke/MethodHandle" ∧ (jyn iX10_place).cls ≠ "java/lang/invoke/VarHandle" ∧ (parseMethodDescriptor (jyn iX10_place).desc).map (fun d => d.parameters.length) = some 0 := ⟨by decide +kernel, by decide +kernel, by decide +kernel⟩
theorem wcX10_child : Cond.code (jyn iX10_child) (jyc iX10_child) (jyl iX10_child) (jyr iX10_child) ∈ jTbl := jinT4 (List.mem_of_getElem? (i := 134) rfl) rfl
theorem wiX10_child : Cond.instanceMethod (jyn iX10_child) ∈ jTbl := jinT4 (List.mem_of_getElem? (i := 132) rfl) rfl
theorem wlX10_child : Cond.selects (jyn iX10_child).cls (jyn iX10_child) (jyn iX10_child) ∈ jTbl := jinT4 (List.mem_of_getElem? (i := 133) rfl) rfl
theorem wpX10_child : (jyn iX10_child).cls ≠ "java/lang/invoke/MethodHandle" ∧ (jyn iX10_child).cls ≠ "java/lang/invoke/VarHandle" ∧ (parseMethodDescriptor (jyn iX10_child).desc).map (fun d => d.parameters.length) = some 4 := ⟨by decide +kernel, by decide +kernel, by decide +kernel⟩
theorem wcX10_move : Cond.code (jyn iX10_move) (jyc iX10_move) (jyl iX10_move) (jyr iX10_move) ∈ jTbl := jinT4 (List.mem_of_getElem? (i := 146) rfl) rfl
theorem wiX10_move : Cond.instanceMethod (jyn iX10_move) ∈ jTbl := jinT4 (List.mem_of_getElem? (i := 144) rfl) rfl
theorem wlX10_move : Cond.selects (jyn iX10_move).cls (jyn iX10_move) (jyn iX10_move) ∈ jTbl := jinT4 (List.mem_of_getElem? (i := 145) rfl) rfl
theorem wpX10_move : (jyn iX10_move).cls ≠ "java/lang/invoke/MethodHandle" ∧ (jyn iX10_move).cls ≠ "java/lang/invoke/VarHandle" ∧ (parseMethodDescriptor (jyn iX10_move).desc).map (fun d => d.parameters.length) = some 4 := ⟨by decide +kernel, by decide +kernel, by decide +kernel⟩
theorem wcX10_shut : Cond.code (jyn iX10_shut) (jyc iX10_shut) (jyl iX10_shut) (jyr iX10_shut) ∈ jTbl := jinT4 (List.mem_of_getElem? (i := 151) rfl) rfl
theorem wiX10_shut : Cond.instanceMethod (jyn iX10_shut) ∈ jTbl := jinT4 (List.mem_of_getElem? (i := 149) rfl) rfl
theorem wlX10_shut : Cond.selects (jyn iX10_shut).cls (jyn iX10_shut) (jyn iX10_shut) ∈ jTbl := jinT4 (List.mem_of_getElem? (i := 150) rfl) rfl
theorem wpX10_shut : (jyn iX10_shut).cls ≠ "java/lang/invoke/MethodHandle" ∧ (jyn iX10_shut).cls ≠ "java/lang/invoke/VarHandle" ∧ (parseMethodDescriptor (jyn iX10_shut).desc).map (fun d => d.parameters.length) = some 3 := ⟨by decide +kernel, by decide +kernel, by decide +kernel⟩
theorem wcX10_part : Cond.code (jyn iX10_part) (jyc iX10_part) (jyl iX10_part) (jyr iX10_part) ∈ jTbl := jinT4 (List.mem_of_getElem? (i := 155) rfl) rfl
theorem wiX10_part : Cond.instanceMethod (jyn iX10_part) ∈ jTbl := jinT4 (List.mem_of_getElem? (i := 153) rfl) rfl
theorem wlX10_part : Cond.selects (jyn iX10_part).cls (jyn iX10_part) (jyn iX10_part) ∈ jTbl := jinT4 (List.mem_of_getElem? (i := 154) rfl) rfl
theorem wpX10_part : (jyn iX10_part).cls ≠ "java/lang/invoke/MethodHandle" ∧ (jyn iX10_part).cls ≠ "java/lang/invoke/VarHandle" ∧ (parseMethodDescriptor (jyn iX10_part).desc).map (fun d => d.parameters.length) = some 2 := ⟨by decide +kernel, by decide +kernel, by decide +kernel⟩
theorem wcX10_tap : Cond.code (jyn iX10_tap) (jyc iX10_tap) (jyl iX10_tap) (jyr iX10_tap) ∈ jTbl := jinT4 (List.mem_of_getElem? (i := 159) rfl) rfl
theorem wiX10_tap : Cond.instanceMethod (jyn iX10_tap) ∈ jTbl := jinT4 (List.mem_of_getElem? (i := 157) rfl) rfl
theorem wlX10_tap : Cond.selects (jyn iX10_tap).cls (jyn iX10_tap) (jyn iX10_tap) ∈ jTbl := jinT4 (List.mem_of_getElem? (i := 158) rfl) rfl
theorem wpX10_tap : (jyn iX10_tap).cls ≠ "java/lang/invoke/MethodHandle" ∧ (jyn iX10_tap).cls ≠ "java/lang/invoke/VarHandle" ∧ (parseMethodDescriptor (jyn iX10_tap).desc).map (fun d => d.parameters.length) = some 4 := ⟨by decide +kernel, by decide +kernel, by decide +kernel⟩
theorem wcX10_annul : Cond.code (jyn iX10_annul) (jyc iX10_annul) (jyl iX10_annul) (jyr iX10_annul) ∈ jTbl := jinT4 (List.mem_of_getElem? (i := 163) rfl) rfl
theorem wiX10_annul : Cond.instanceMethod (jyn iX10_annul) ∈ jTbl := jinT4 (List.mem_of_getElem? (i := 161) rfl) rfl
theorem wlX10_annul : Cond.selects (jyn iX10_annul).cls (jyn iX10_annul) (jyn iX10_annul) ∈ jTbl := jinT4 (List.mem_of_getElem? (i := 162) rfl) rfl
theorem wpX10_annul : (jyn iX10_annul).cls ≠ "java/lang/invoke/MethodHandle" ∧ (jyn iX10_annul).cls ≠ "java/lang/invoke/VarHandle" ∧ (parseMethodDescriptor (jyn iX10_annul).desc).map (fun d => d.parameters.length) = some 1 := ⟨by decide +kernel, by decide +kernel, by decide +kernel⟩
theorem wcX10_force : Cond.code (jyn iX10_force) (jyc iX10_force) (jyl iX10_force) (jyr iX10_force) ∈ jTbl := jinT4 (List.mem_of_getElem? (i := 174) rfl) rfl
theorem wiX10_force : Cond.instanceMethod (jyn iX10_force) ∈ jTbl := jinT4 (List.mem_of_getElem? (i := 172) rfl) rfl
theorem wlX10_force : Cond.selects (jyn iX10_force).cls (jyn iX10_force) (jyn iX10_force) ∈ jTbl := jinT4 (List.mem_of_getElem? (i := 173) rfl) rfl
theorem wpX10_force : (jyn iX10_force).cls ≠ "java/lang/invoke/MethodHandle" ∧ (jyn iX10_force).cls ≠ "java/lang/invoke/VarHandle" ∧ (parseMethodDescriptor (jyn iX10_force).desc).map (fun d => d.parameters.length) = some 1 := ⟨by decide +kernel, by decide +kernel, by decide +kernel⟩
theorem wcX10_home : Cond.code (jyn iX10_home) (jyc iX10_home) (jyl iX10_home) (jyr iX10_home) ∈ jTbl := jinT4 (List.mem_of_getElem? (i := 182) rfl) rfl
theorem wiX10_home : Cond.instanceMethod (jyn iX10_home) ∈ jTbl := jinT4 (List.mem_of_getElem? (i := 180) rfl) rfl
theorem wlX10_home : Cond.selects (jyn iX10_home).cls (jyn iX10_home) (jyn iX10_home) ∈ jTbl := jinT4 (List.mem_of_getElem? (i := 181) rfl) rfl
theorem wpX10_home : (jyn iX10_home).cls ≠ "java/lang/invoke/MethodHandle" ∧ (jyn iX10_home).cls ≠ "java/lang/invoke/VarHandle" ∧ (parseMethodDescriptor (jyn iX10_home).desc).map (fun d => d.parameters.length) = some 3 := ⟨by decide +kernel, by decide +kernel, by decide +kernel⟩
theorem wcX10_dist : Cond.code (jyn iX10_dist) (jyc iX10_dist) (jyl iX10_dist) (jyr iX10_dist) ∈ jTbl := jinT4 (List.mem_of_getElem? (i := 210) rfl) rfl
theorem wiX10_dist : Cond.instanceMethod (jyn iX10_dist) ∈ jTbl := jinT4 (List.mem_of_getElem? (i := 208) rfl) rfl
theorem wlX10_dist : Cond.selects (jyn iX10_dist).cls (jyn iX10_dist) (jyn iX10_dist) ∈ jTbl := jinT4 (List.mem_of_getElem? (i := 209) rfl) rfl
theorem wpX10_dist : (jyn iX10_dist).cls ≠ "java/lang/invoke/MethodHandle" ∧ (jyn iX10_dist).cls ≠ "java/lang/invoke/VarHandle" ∧ (parseMethodDescriptor (jyn iX10_dist).desc).map (fun d => d.parameters.length) = some 5 := ⟨by decide +kernel, by decide +kernel, by decide +kernel⟩
theorem wcX10_row : Cond.code (jyn iX10_row) (jyc iX10_row) (jyl iX10_row) (jyr iX10_row) ∈ jTbl := jinT5 (List.mem_of_getElem? (i := 3) rfl) rfl
theorem wiX10_row : Cond.instanceMethod (jyn iX10_row) ∈ jTbl := jinT5 (List.mem_of_getElem? (i := 1) rfl) rfl
theorem wlX10_row : Cond.selects (jyn iX10_row).cls (jyn iX10_row) (jyn iX10_row) ∈ jTbl := jinT5 (List.mem_of_getElem? (i := 2) rfl) rfl
theorem wpX10_row : (jyn iX10_row).cls ≠ "java/lang/invoke/MethodHandle" ∧ (jyn iX10_row).cls ≠ "java/lang/invoke/VarHandle" ∧ (parseMethodDescriptor (jyn iX10_row).desc).map (fun d => d.parameters.length) = some 6 := ⟨by decide +kernel, by decide +kernel, by decide +kernel⟩
theorem wcX10_right : Cond.code (jyn iX10_right) (jyc iX10_right) (jyl iX10_right) (jyr iX10_right) ∈ jTbl := jinT5 (List.mem_of_getElem? (i := 20) rfl) rfl
theorem wiX10_right : Cond.instanceMethod (jyn iX10_right) ∈ jTbl := jinT5 (List.mem_of_getElem? (i := 18) rfl) rfl
theorem wlX10_right : Cond.selects (jyn iX10_right).cls (jyn iX10_right) (jyn iX10_right) ∈ jTbl := jinT5 (List.mem_of_getElem? (i := 19) rfl) rfl
theorem wpX10_right : (jyn iX10_right).cls ≠ "java/lang/invoke/MethodHandle" ∧ (jyn iX10_right).cls ≠ "java/lang/invoke/VarHandle" ∧ (parseMethodDescriptor (jyn iX10_right).desc).map (fun d => d.parameters.length) = some 3 := ⟨by decide +kernel, by decide +kernel, by decide +kernel⟩
theorem wcX10_altered : Cond.code (jyn iX10_altered) (jyc iX10_altered) (jyl iX10_altered) (jyr iX10_altered) ∈ jTbl := jinT5 (List.mem_of_getElem? (i := 47) rfl) rfl
theorem wiX10_altered : Cond.instanceMethod (jyn iX10_altered) ∈ jTbl := jinT5 (List.mem_of_getElem? (i := 45) rfl) rfl
theorem wlX10_altered : Cond.selects (jyn iX10_altered).cls (jyn iX10_altered) (jyn iX10_altered) ∈ jTbl := jinT5 (List.mem_of_getElem? (i := 46) rfl) rfl
theorem wpX10_altered : (jyn iX10_altered).cls ≠ "java/lang/invoke/MethodHandle" ∧ (jyn iX10_altered).cls ≠ "java/lang/invoke/VarHandle" ∧ (parseMethodDescriptor (jyn iX10_altered).desc).map (fun d => d.parameters.length) = some 3 := ⟨by decide +kernel, by decide +kernel, by decide +kernel⟩
theorem wcX10_stop : Cond.code (jyn iX10_stop) (jyc iX10_stop) (jyl iX10_stop) (jyr iX10_stop) ∈ jTbl := jinT5 (List.mem_of_getElem? (i := 66) rfl) rfl
theorem wiX10_stop : Cond.instanceMethod (jyn iX10_stop) ∈ jTbl := jinT5 (List.mem_of_getElem? (i := 64) rfl) rfl
theorem wlX10_stop : Cond.selects (jyn iX10_stop).cls (jyn iX10_stop) (jyn iX10_stop) ∈ jTbl := jinT5 (List.mem_of_getElem? (i := 65) rfl) rfl
theorem wpX10_stop : (jyn iX10_stop).cls ≠ "java/lang/invoke/MethodHandle" ∧ (jyn iX10_stop).cls ≠ "java/lang/invoke/VarHandle" ∧ (parseMethodDescriptor (jyn iX10_stop).desc).map (fun d => d.parameters.length) = some 3 := ⟨by decide +kernel, by decide +kernel, by decide +kernel⟩
theorem wcX10_load : Cond.code (jyn iX10_load) (jyc iX10_load) (jyl iX10_load) (jyr iX10_load) ∈ jTbl := jinT5 (List.mem_of_getElem? (i := 70) rfl) rfl
theorem wiX10_load : Cond.instanceMethod (jyn iX10_load) ∈ jTbl := jinT5 (List.mem_of_getElem? (i := 68) rfl) rfl
theorem wlX10_load : Cond.selects (jyn iX10_load).cls (jyn iX10_load) (jyn iX10_load) ∈ jTbl := jinT5 (List.mem_of_getElem? (i := 69) rfl) rfl
theorem wpX10_load : (jyn iX10_load).cls ≠ "java/lang/invoke/MethodHandle" ∧ (jyn iX10_load).cls ≠ "java/lang/invoke/VarHandle" ∧ (parseMethodDescriptor (jyn iX10_load).desc).map (fun d => d.parameters.length) = some 4 := ⟨by decide +kernel, by decide +kernel, by decide +kernel⟩
theorem wcX10_route : Cond.code (jyn iX10_route) (jyc iX10_route) (jyl iX10_route) (jyr iX10_route) ∈ jTbl := jinT5 (List.mem_of_getElem? (i := 144) rfl) rfl
theorem wiX10_route : Cond.instanceMethod (jyn iX10_route) ∈ jTbl := jinT5 (List.mem_of_getElem? (i := 142) rfl) rfl
theorem wlX10_route : Cond.selects (jyn iX10_route).cls (jyn iX10_route) (jyn iX10_route) ∈ jTbl := jinT5 (List.mem_of_getElem? (i := 143) rfl) rfl
theorem wpX10_route : (jyn iX10_route).cls ≠ "java/lang/invoke/MethodHandle" ∧ (jyn iX10_route).cls ≠ "java/lang/invoke/VarHandle" ∧ (parseMethodDescriptor (jyn iX10_route).desc).map (fun d => d.parameters.length) = some 4 := ⟨by decide +kernel, by decide +kernel, by decide +kernel⟩
theorem wcX10_routeStop : Cond.code (jyn iX10_routeStop) (jyc iX10_routeStop) (jyl iX10_routeStop) (jyr iX10_routeStop) ∈ jTbl := jinT5 (List.mem_of_getElem? (i := 152) rfl) rfl
theorem wiX10_routeStop : Cond.instanceMethod (jyn iX10_routeStop) ∈ jTbl := jinT5 (List.mem_of_getElem? (i := 150) rfl) rfl
theorem wlX10_routeStop : Cond.selects (jyn iX10_routeStop).cls (jyn iX10_routeStop) (jyn iX10_routeStop) ∈ jTbl := jinT5 (List.mem_of_getElem? (i := 151) rfl) rfl
theorem wpX10_routeStop : (jyn iX10_routeStop).cls ≠ "java/lang/invoke/MethodHandle" ∧ (jyn iX10_routeStop).cls ≠ "java/lang/invoke/VarHandle" ∧ (parseMethodDescriptor (jyn iX10_routeStop).desc).map (fun d => d.parameters.length) = some 5 := ⟨by decide +kernel, by decide +kernel, by decide +kernel⟩
theorem wcX10_good : Cond.code (jyn iX10_good) (jyc iX10_good) (jyl iX10_good) (jyr iX10_good) ∈ jTbl := jinT5 (List.mem_of_getElem? (i := 165) rfl) rfl
theorem wiX10_good : Cond.instanceMethod (jyn iX10_good) ∈ jTbl := jinT5 (List.mem_of_getElem? (i := 163) rfl) rfl
theorem wlX10_good : Cond.selects (jyn iX10_good).cls (jyn iX10_good) (jyn iX10_good) ∈ jTbl := jinT5 (List.mem_of_getElem? (i := 164) rfl) rfl
theorem wpX10_good : (jyn iX10_good).cls ≠ "java/lang/invoke/MethodHandle" ∧ (jyn iX10_good).cls ≠ "java/lang/invoke/VarHandle" ∧ (parseMethodDescriptor (jyn iX10_good).desc).map (fun d => d.parameters.length) = some 4 := ⟨by decide +kernel, by decide +kernel, by decide +kernel⟩
theorem wcX10_pay : Cond.code (jyn iX10_pay) (jyc iX10_pay) (jyl iX10_pay) (jyr iX10_pay) ∈ jTbl := jinT5 (List.mem_of_getElem? (i := 169) rfl) rfl
theorem wiX10_pay : Cond.instanceMethod (jyn iX10_pay) ∈ jTbl := jinT5 (List.mem_of_getElem? (i := 167) rfl) rfl
theorem wlX10_pay : Cond.selects (jyn iX10_pay).cls (jyn iX10_pay) (jyn iX10_pay) ∈ jTbl := jinT5 (List.mem_of_getElem? (i := 168) rfl) rfl
theorem wpX10_pay : (jyn iX10_pay).cls ≠ "java/lang/invoke/MethodHandle" ∧ (jyn iX10_pay).cls ≠ "java/lang/invoke/VarHandle" ∧ (parseMethodDescriptor (jyn iX10_pay).desc).map (fun d => d.parameters.length) = some 3 := ⟨by decide +kernel, by decide +kernel, by decide +kernel⟩
theorem wcX10_routes : Cond.code (jyn iX10_routes) (jyc iX10_routes) (jyl iX10_routes) (jyr iX10_routes) ∈ jTbl := jinT5 (List.mem_of_getElem? (i := 178) rfl) rfl
theorem wiX10_routes : Cond.instanceMethod (jyn iX10_routes) ∈ jTbl := jinT5 (List.mem_of_getElem? (i := 176) rfl) rfl
theorem wlX10_routes : Cond.selects (jyn iX10_routes).cls (jyn iX10_routes) (jyn iX10_routes) ∈ jTbl := jinT5 (List.mem_of_getElem? (i := 177) rfl) rfl
theorem wpX10_routes : (jyn iX10_routes).cls ≠ "java/lang/invoke/MethodHandle" ∧ (jyn iX10_routes).cls ≠ "java/lang/invoke/VarHandle" ∧ (parseMethodDescriptor (jyn iX10_routes).desc).map (fun d => d.parameters.length) = some 3 := ⟨by decide +kernel, by decide +kernel, by decide +kernel⟩
theorem wcX10_routeSet : Cond.code (jyn iX10_routeSet) (jyc iX10_routeSet) (jyl iX10_routeSet) (jyr iX10_routeSet) ∈ jTbl := jinT5 (List.mem_of_getElem? (i := 182) rfl) rfl
theorem wiX10_routeSet : Cond.instanceMethod (jyn iX10_routeSet) ∈ jTbl := jinT5 (List.mem_of_getElem? (i := 180) rfl) rfl
theorem wlX10_routeSet : Cond.selects (jyn iX10_routeSet).cls (jyn iX10_routeSet) (jyn iX10_routeSet) ∈ jTbl := jinT5 (List.mem_of_getElem? (i := 181) rfl) rfl
theorem wpX10_routeSet : (jyn iX10_routeSet).cls ≠ "java/lang/invoke/MethodHandle" ∧ (jyn iX10_routeSet).cls ≠ "java/lang/invoke/VarHandle" ∧ (parseMethodDescriptor (jyn iX10_routeSet).desc).map (fun d => d.parameters.length) = some 4 := ⟨by decide +kernel, by decide +kernel, by decide +kernel⟩
theorem wcX10_taxis : Cond.code (jyn iX10_taxis) (jyc iX10_taxis) (jyl iX10_taxis) (jyr iX10_taxis) ∈ jTbl := jinT5 (List.mem_of_getElem? (i := 186) rfl) rfl
theorem wiX10_taxis : Cond.instanceMethod (jyn iX10_taxis) ∈ jTbl := jinT5 (List.mem_of_getElem? (i := 184) rfl) rfl
theorem wlX10_taxis : Cond.selects (jyn iX10_taxis).cls (jyn iX10_taxis) (jyn iX10_taxis) ∈ jTbl := jinT5 (List.mem_of_getElem? (i := 185) rfl) rfl
theorem wpX10_taxis : (jyn iX10_taxis).cls ≠ "java/lang/invoke/MethodHandle" ∧ (jyn iX10_taxis).cls ≠ "java/lang/invoke/VarHandle" ∧ (parseMethodDescriptor (jyn iX10_taxis).desc).map (fun d => d.parameters.length) = some 3 := ⟨by decide +kernel, by decide +kernel, by decide +kernel⟩
theorem wcX10_fewest : Cond.code (jyn iX10_fewest) (jyc iX10_fewest) (jyl iX10_fewest) (jyr iX10_fewest) ∈ jTbl := jinT5 (List.mem_of_getElem? (i := 190) rfl) rfl
theorem wiX10_fewest : Cond.instanceMethod (jyn iX10_fewest) ∈ jTbl := jinT5 (List.mem_of_getElem? (i := 188) rfl) rfl
theorem wlX10_fewest : Cond.selects (jyn iX10_fewest).cls (jyn iX10_fewest) (jyn iX10_fewest) ∈ jTbl := jinT5 (List.mem_of_getElem? (i := 189) rfl) rfl
theorem wpX10_fewest : (jyn iX10_fewest).cls ≠ "java/lang/invoke/MethodHandle" ∧ (jyn iX10_fewest).cls ≠ "java/lang/invoke/VarHandle" ∧ (parseMethodDescriptor (jyn iX10_fewest).desc).map (fun d => d.parameters.length) = some 3 := ⟨by decide +kernel, by decide +kernel, by decide +kernel⟩
theorem wcX10_fleet : Cond.code (jyn iX10_fleet) (jyc iX10_fleet) (jyl iX10_fleet) (jyr iX10_fleet) ∈ jTbl := jinT5 (List.mem_of_getElem? (i := 198) rfl) rfl
theorem wiX10_fleet : Cond.instanceMethod (jyn iX10_fleet) ∈ jTbl := jinT5 (List.mem_of_getElem? (i := 196) rfl) rfl
theorem wlX10_fleet : Cond.selects (jyn iX10_fleet).cls (jyn iX10_fleet) (jyn iX10_fleet) ∈ jTbl := jinT5 (List.mem_of_getElem? (i := 197) rfl) rfl
theorem wpX10_fleet : (jyn iX10_fleet).cls ≠ "java/lang/invoke/MethodHandle" ∧ (jyn iX10_fleet).cls ≠ "java/lang/invoke/VarHandle" ∧ (parseMethodDescriptor (jyn iX10_fleet).desc).map (fun d => d.parameters.length) = some 2 := ⟨by decide +kernel, by decide +kernel, by decide +kernel⟩
theorem wcX10_shifted : Cond.code (jyn iX10_shifted) (jyc iX10_shifted) (jyl iX10_shifted) (jyr iX10_shifted) ∈ jTbl := jinT6 (List.mem_of_getElem? (i := 8) rfl) rfl
theorem wiX10_shifted : Cond.instanceMethod (jyn iX10_shifted) ∈ jTbl := jinT6 (List.mem_of_getElem? (i := 6) rfl) rfl
theorem wlX10_shifted : Cond.selects (jyn iX10_shifted).cls (jyn iX10_shifted) (jyn iX10_shifted) ∈ jTbl := jinT6 (List.mem_of_getElem? (i := 7) rfl) rfl
theorem wpX10_shifted : (jyn iX10_shifted).cls ≠ "java/lang/invoke/MethodHandle" ∧ (jyn iX10_shifted).cls ≠ "java/lang/invoke/VarHandle" ∧ (parseMethodDescriptor (jyn iX10_shifted).desc).map (fun d => d.parameters.length) = some 2 := ⟨by decide +kernel, by decide +kernel, by decide +kernel⟩
theorem wcX10_shift : Cond.code (jyn iX10_shift) (jyc iX10_shift) (jyl iX10_shift) (jyr iX10_shift) ∈ jTbl := jinT6 (List.mem_of_getElem? (i := 31) rfl) rfl
theorem wiX10_shift : Cond.instanceMethod (jyn iX10_shift) ∈ jTbl := jinT6 (List.mem_of_getElem? (i := 29) rfl) rfl
theorem wlX10_shift : Cond.selects (jyn iX10_shift).cls (jyn iX10_shift) (jyn iX10_shift) ∈ jTbl := jinT6 (List.mem_of_getElem? (i := 30) rfl) rfl
theorem wpX10_shift : (jyn iX10_shift).cls ≠ "java/lang/invoke/MethodHandle" ∧ (jyn iX10_shift).cls ≠ "java/lang/invoke/VarHandle" ∧ (parseMethodDescriptor (jyn iX10_shift).desc).map (fun d => d.parameters.length) = some 3 := ⟨by decide +kernel, by decide +kernel, by decide +kernel⟩
theorem wcX10_bid : Cond.code (jyn iX10_bid) (jyc iX10_bid) (jyl iX10_bid) (jyr iX10_bid) ∈ jTbl := jinT6 (List.mem_of_getElem? (i := 35) rfl) rfl
theorem wiX10_bid : Cond.instanceMethod (jyn iX10_bid) ∈ jTbl := jinT6 (List.mem_of_getElem? (i := 33) rfl) rfl
theorem wlX10_bid : Cond.selects (jyn iX10_bid).cls (jyn iX10_bid) (jyn iX10_bid) ∈ jTbl := jinT6 (List.mem_of_getElem? (i := 34) rfl) rfl
theorem wpX10_bid : (jyn iX10_bid).cls ≠ "java/lang/invoke/MethodHandle" ∧ (jyn iX10_bid).cls ≠ "java/lang/invoke/VarHandle" ∧ (parseMethodDescriptor (jyn iX10_bid).desc).map (fun d => d.parameters.length) = some 3 := ⟨by decide +kernel, by decide +kernel, by decide +kernel⟩
theorem wcX10_award : Cond.code (jyn iX10_award) (jyc iX10_award) (jyl iX10_award) (jyr iX10_award) ∈ jTbl := jinT6 (List.mem_of_getElem? (i := 43) rfl) rfl
theorem wiX10_award : Cond.instanceMethod (jyn iX10_award) ∈ jTbl := jinT6 (List.mem_of_getElem? (i := 41) rfl) rfl
theorem wlX10_award : Cond.selects (jyn iX10_award).cls (jyn iX10_award) (jyn iX10_award) ∈ jTbl := jinT6 (List.mem_of_getElem? (i := 42) rfl) rfl
theorem wpX10_award : (jyn iX10_award).cls ≠ "java/lang/invoke/MethodHandle" ∧ (jyn iX10_award).cls ≠ "java/lang/invoke/VarHandle" ∧ (parseMethodDescriptor (jyn iX10_award).desc).map (fun d => d.parameters.length) = some 2 := ⟨by decide +kernel, by decide +kernel, by decide +kernel⟩
theorem wcX10_awarded : Cond.code (jyn iX10_awarded) (jyc iX10_awarded) (jyl iX10_awarded) (jyr iX10_awarded) ∈ jTbl := jinT6 (List.mem_of_getElem? (i := 70) rfl) rfl
theorem wiX10_awarded : Cond.instanceMethod (jyn iX10_awarded) ∈ jTbl := jinT6 (List.mem_of_getElem? (i := 68) rfl) rfl
theorem wlX10_awarded : Cond.selects (jyn iX10_awarded).cls (jyn iX10_awarded) (jyn iX10_awarded) ∈ jTbl := jinT6 (List.mem_of_getElem? (i := 69) rfl) rfl
theorem wpX10_awarded : (jyn iX10_awarded).cls ≠ "java/lang/invoke/MethodHandle" ∧ (jyn iX10_awarded).cls ≠ "java/lang/invoke/VarHandle" ∧ (parseMethodDescriptor (jyn iX10_awarded).desc).map (fun d => d.parameters.length) = some 3 := ⟨by decide +kernel, by decide +kernel, by decide +kernel⟩
theorem wcX10_driver : Cond.code (jyn iX10_driver) (jyc iX10_driver) (jyl iX10_driver) (jyr iX10_driver) ∈ jTbl := jinT6 (List.mem_of_getElem? (i := 78) rfl) rfl
theorem wiX10_driver : Cond.instanceMethod (jyn iX10_driver) ∈ jTbl := jinT6 (List.mem_of_getElem? (i := 76) rfl) rfl
theorem wlX10_driver : Cond.selects (jyn iX10_driver).cls (jyn iX10_driver) (jyn iX10_driver) ∈ jTbl := jinT6 (List.mem_of_getElem? (i := 77) rfl) rfl
theorem wpX10_driver : (jyn iX10_driver).cls ≠ "java/lang/invoke/MethodHandle" ∧ (jyn iX10_driver).cls ≠ "java/lang/invoke/VarHandle" ∧ (parseMethodDescriptor (jyn iX10_driver).desc).map (fun d => d.parameters.length) = some 1 := ⟨by decide +kernel, by decide +kernel, by decide +kernel⟩
theorem wcX10_leave : Cond.code (jyn iX10_leave) (jyc iX10_leave) (jyl iX10_leave) (jyr iX10_leave) ∈ jTbl := jinT6 (List.mem_of_getElem? (i := 86) rfl) rfl
theorem wiX10_leave : Cond.instanceMethod (jyn iX10_leave) ∈ jTbl := jinT6 (List.mem_of_getElem? (i := 84) rfl) rfl
theorem wlX10_leave : Cond.selects (jyn iX10_leave).cls (jyn iX10_leave) (jyn iX10_leave) ∈ jTbl := jinT6 (List.mem_of_getElem? (i := 85) rfl) rfl
theorem wpX10_leave : (jyn iX10_leave).cls ≠ "java/lang/invoke/MethodHandle" ∧ (jyn iX10_leave).cls ≠ "java/lang/invoke/VarHandle" ∧ (parseMethodDescriptor (jyn iX10_leave).desc).map (fun d => d.parameters.length) = some 2 := ⟨by decide +kernel, by decide +kernel, by decide +kernel⟩
theorem wcX10_weigh : Cond.code (jyn iX10_weigh) (jyc iX10_weigh) (jyl iX10_weigh) (jyr iX10_weigh) ∈ jTbl := jinT6 (List.mem_of_getElem? (i := 94) rfl) rfl
theorem wiX10_weigh : Cond.instanceMethod (jyn iX10_weigh) ∈ jTbl := jinT6 (List.mem_of_getElem? (i := 92) rfl) rfl
theorem wlX10_weigh : Cond.selects (jyn iX10_weigh).cls (jyn iX10_weigh) (jyn iX10_weigh) ∈ jTbl := jinT6 (List.mem_of_getElem? (i := 93) rfl) rfl
theorem wpX10_weigh : (jyn iX10_weigh).cls ≠ "java/lang/invoke/MethodHandle" ∧ (jyn iX10_weigh).cls ≠ "java/lang/invoke/VarHandle" ∧ (parseMethodDescriptor (jyn iX10_weigh).desc).map (fun d => d.parameters.length) = some 2 := ⟨by decide +kernel, by decide +kernel, by decide +kernel⟩
theorem wcX10_cover : Cond.code (jyn iX10_cover) (jyc iX10_cover) (jyl iX10_cover) (jyr iX10_cover) ∈ jTbl := jinT6 (List.mem_of_getElem? (i := 102) rfl) rfl
theorem wiX10_cover : Cond.instanceMethod (jyn iX10_cover) ∈ jTbl := jinT6 (List.mem_of_getElem? (i := 100) rfl) rfl
theorem wlX10_cover : Cond.selects (jyn iX10_cover).cls (jyn iX10_cover) (jyn iX10_cover) ∈ jTbl := jinT6 (List.mem_of_getElem? (i := 101) rfl) rfl
theorem wpX10_cover : (jyn iX10_cover).cls ≠ "java/lang/invoke/MethodHandle" ∧ (jyn iX10_cover).cls ≠ "java/lang/invoke/VarHandle" ∧ (parseMethodDescriptor (jyn iX10_cover).desc).map (fun d => d.parameters.length) = some 1 := ⟨by decide +kernel, by decide +kernel, by decide +kernel⟩
theorem wcX10_drives : Cond.code (jyn iX10_drives) (jyc iX10_drives) (jyl iX10_drives) (jyr iX10_drives) ∈ jTbl := jinT6 (List.mem_of_getElem? (i := 132) rfl) rfl
theorem wiX10_drives : Cond.instanceMethod (jyn iX10_drives) ∈ jTbl := jinT6 (List.mem_of_getElem? (i := 130) rfl) rfl
theorem wlX10_drives : Cond.selects (jyn iX10_drives).cls (jyn iX10_drives) (jyn iX10_drives) ∈ jTbl := jinT6 (List.mem_of_getElem? (i := 131) rfl) rfl
theorem wpX10_drives : (jyn iX10_drives).cls ≠ "java/lang/invoke/MethodHandle" ∧ (jyn iX10_drives).cls ≠ "java/lang/invoke/VarHandle" ∧ (parseMethodDescriptor (jyn iX10_drives).desc).map (fun d => d.parameters.length) = some 2 := ⟨by decide +kernel, by decide +kernel, by decide +kernel⟩
theorem wcX10_call : Cond.code (jyn iX10_call) (jyc iX10_call) (jyl iX10_call) (jyr iX10_call) ∈ jTbl := jinT6 (List.mem_of_getElem? (i := 136) rfl) rfl
theorem wiX10_call : Cond.instanceMethod (jyn iX10_call) ∈ jTbl := jinT6 (List.mem_of_getElem? (i := 134) rfl) rfl
theorem wlX10_call : Cond.selects (jyn iX10_call).cls (jyn iX10_call) (jyn iX10_call) ∈ jTbl := jinT6 (List.mem_of_getElem? (i := 135) rfl) rfl
theorem wpX10_call : (jyn iX10_call).cls ≠ "java/lang/invoke/MethodHandle" ∧ (jyn iX10_call).cls ≠ "java/lang/invoke/VarHandle" ∧ (parseMethodDescriptor (jyn iX10_call).desc).map (fun d => d.parameters.length) = some 3 := ⟨by decide +kernel, by decide +kernel, by decide +kernel⟩
theorem wcX10_told : Cond.code (jyn iX10_told) (jyc iX10_told) (jyl iX10_told) (jyr iX10_told) ∈ jTbl := jinT6 (List.mem_of_getElem? (i := 144) rfl) rfl
theorem wiX10_told : Cond.instanceMethod (jyn iX10_told) ∈ jTbl := jinT6 (List.mem_of_getElem? (i := 142) rfl) rfl
theorem wlX10_told : Cond.selects (jyn iX10_told).cls (jyn iX10_told) (jyn iX10_told) ∈ jTbl := jinT6 (List.mem_of_getElem? (i := 143) rfl) rfl
theorem wpX10_told : (jyn iX10_told).cls ≠ "java/lang/invoke/MethodHandle" ∧ (jyn iX10_told).cls ≠ "java/lang/invoke/VarHandle" ∧ (parseMethodDescriptor (jyn iX10_told).desc).map (fun d => d.parameters.length) = some 2 := ⟨by decide +kernel, by decide +kernel, by decide +kernel⟩
theorem wcX10_soonest : Cond.code (jyn iX10_soonest) (jyc iX10_soonest) (jyl iX10_soonest) (jyr iX10_soonest) ∈ jTbl := jinT6 (List.mem_of_getElem? (i := 154) rfl) rfl
theorem wiX10_soonest : Cond.instanceMethod (jyn iX10_soonest) ∈ jTbl := jinT6 (List.mem_of_getElem? (i := 152) rfl) rfl
theorem wlX10_soonest : Cond.selects (jyn iX10_soonest).cls (jyn iX10_soonest) (jyn iX10_soonest) ∈ jTbl := jinT6 (List.mem_of_getElem? (i := 153) rfl) rfl
theorem wpX10_soonest : (jyn iX10_soonest).cls ≠ "java/lang/invoke/MethodHandle" ∧ (jyn iX10_soonest).cls ≠ "java/lang/invoke/VarHandle" ∧ (parseMethodDescriptor (jyn iX10_soonest).desc).map (fun d => d.parameters.length) = some 0 := ⟨by decide +kernel, by decide +kernel, by decide +kernel⟩
theorem wcX10_lent : Cond.code (jyn iX10_lent) (jyc iX10_lent) (jyl iX10_lent) (jyr iX10_lent) ∈ jTbl := jinT6 (List.mem_of_getElem? (i := 166) rfl) rfl
theorem wiX10_lent : Cond.instanceMethod (jyn iX10_lent) ∈ jTbl := jinT6 (List.mem_of_getElem? (i := 164) rfl) rfl
theorem wlX10_lent : Cond.selects (jyn iX10_lent).cls (jyn iX10_lent) (jyn iX10_lent) ∈ jTbl := jinT6 (List.mem_of_getElem? (i := 165) rfl) rfl
theorem wpX10_lent : (jyn iX10_lent).cls ≠ "java/lang/invoke/MethodHandle" ∧ (jyn iX10_lent).cls ≠ "java/lang/invoke/VarHandle" ∧ (parseMethodDescriptor (jyn iX10_lent).desc).map (fun d => d.parameters.length) = some 1 := ⟨by decide +kernel, by decide +kernel, by decide +kernel⟩
theorem wcX10_lentAt : Cond.code (jyn iX10_lentAt) (jyc iX10_lentAt) (jyl iX10_lentAt) (jyr iX10_lentAt) ∈ jTbl := jinT6 (List.mem_of_getElem? (i := 184) rfl) rfl
theorem wiX10_lentAt : Cond.instanceMethod (jyn iX10_lentAt) ∈ jTbl := jinT6 (List.mem_of_getElem? (i := 182) rfl) rfl
theorem wlX10_lentAt : Cond.selects (jyn iX10_lentAt).cls (jyn iX10_lentAt) (jyn iX10_lentAt) ∈ jTbl := jinT6 (List.mem_of_getElem? (i := 183) rfl) rfl
theorem wpX10_lentAt : (jyn iX10_lentAt).cls ≠ "java/lang/invoke/MethodHandle" ∧ (jyn iX10_lentAt).cls ≠ "java/lang/invoke/VarHandle" ∧ (parseMethodDescriptor (jyn iX10_lentAt).desc).map (fun d => d.parameters.length) = some 3 := ⟨by decide +kernel, by decide +kernel, by decide +kernel⟩
theorem wcX10_count : Cond.code (jyn iX10_count) (jyc iX10_count) (jyl iX10_count) (jyr iX10_count) ∈ jTbl := jinT6 (List.mem_of_getElem? (i := 188) rfl) rfl
theorem wiX10_count : Cond.instanceMethod (jyn iX10_count) ∈ jTbl := jinT6 (List.mem_of_getElem? (i := 186) rfl) rfl
theorem wlX10_count : Cond.selects (jyn iX10_count).cls (jyn iX10_count) (jyn iX10_count) ∈ jTbl := jinT6 (List.mem_of_getElem? (i := 187) rfl) rfl
theorem wpX10_count : (jyn iX10_count).cls ≠ "java/lang/invoke/MethodHandle" ∧ (jyn iX10_count).cls ≠ "java/lang/invoke/VarHandle" ∧ (parseMethodDescriptor (jyn iX10_count).desc).map (fun d => d.parameters.length) = some 1 := ⟨by decide +kernel, by decide +kernel, by decide +kernel⟩
theorem wcX10_within : Cond.code (jyn iX10_within) (jyc iX10_within) (jyl iX10_within) (jyr iX10_within) ∈ jTbl := jinT3 (List.mem_of_getElem? (i := 191) rfl) rfl
theorem wtX10_within : Cond.static (jyn iX10_within) ∈ jTbl := jinT3 (List.mem_of_getElem? (i := 190) rfl) rfl
theorem wpX10_within : (jyn iX10_within).cls ≠ "java/lang/invoke/MethodHandle" ∧ (jyn iX10_within).cls ≠ "java/lang/invoke/VarHandle" ∧ (parseMethodDescriptor (jyn iX10_within).desc).map (fun d => d.parameters.length) = some 2 := ⟨by decide +kernel, by decide +kernel, by decide +kernel⟩
theorem wcX10_isDay : Cond.code (jyn iX10_isDay) (jyc iX10_isDay) (jyl iX10_isDay) (jyr iX10_isDay) ∈ jTbl := jinT3 (List.mem_of_getElem? (i := 188) rfl) rfl
theorem wtX10_isDay : Cond.static (jyn iX10_isDay) ∈ jTbl := jinT3 (List.mem_of_getElem? (i := 187) rfl) rfl
theorem wpX10_isDay : (jyn iX10_isDay).cls ≠ "java/lang/invoke/MethodHandle" ∧ (jyn iX10_isDay).cls ≠ "java/lang/invoke/VarHandle" ∧ (parseMethodDescriptor (jyn iX10_isDay).desc).map (fun d => d.parameters.length) = some 1 := ⟨by decide +kernel, by decide +kernel, by decide +kernel⟩
theorem wcX10_isRouteCount : Cond.code (jyn iX10_isRouteCount) (jyc iX10_isRouteCount) (jyl iX10_isRouteCount) (jyr iX10_isRouteCount) ∈ jTbl := jinT6 (List.mem_of_getElem? (i := 46) rfl) rfl
theorem wtX10_isRouteCount : Cond.static (jyn iX10_isRouteCount) ∈ jTbl := jinT6 (List.mem_of_getElem? (i := 45) rfl) rfl
theorem wpX10_isRouteCount : (jyn iX10_isRouteCount).cls ≠ "java/lang/invoke/MethodHandle" ∧ (jyn iX10_isRouteCount).cls ≠ "java/lang/invoke/VarHandle" ∧ (parseMethodDescriptor (jyn iX10_isRouteCount).desc).map (fun d => d.parameters.length) = some 1 := ⟨by decide +kernel, by decide +kernel, by decide +kernel⟩
theorem wcX10_isFirmOrNone : Cond.code (jyn iX10_isFirmOrNone) (jyc iX10_isFirmOrNone) (jyl iX10_isFirmOrNone) (jyr iX10_isFirmOrNone) ∈ jTbl := jinT6 (List.mem_of_getElem? (i := 49) rfl) rfl
theorem wtX10_isFirmOrNone : Cond.static (jyn iX10_isFirmOrNone) ∈ jTbl := jinT6 (List.mem_of_getElem? (i := 48) rfl) rfl
theorem wpX10_isFirmOrNone : (jyn iX10_isFirmOrNone).cls ≠ "java/lang/invoke/MethodHandle" ∧ (jyn iX10_isFirmOrNone).cls ≠ "java/lang/invoke/VarHandle" ∧ (parseMethodDescriptor (jyn iX10_isFirmOrNone).desc).map (fun d => d.parameters.length) = some 1 := ⟨by decide +kernel, by decide +kernel, by decide +kernel⟩
theorem wcX10_canMeasure : Cond.code (jyn iX10_canMeasure) (jyc iX10_canMeasure) (jyl iX10_canMeasure) (jyr iX10_canMeasure) ∈ jTbl := jinT4 (List.mem_of_getElem? (i := 213) rfl) rfl
theorem wtX10_canMeasure : Cond.static (jyn iX10_canMeasure) ∈ jTbl := jinT4 (List.mem_of_getElem? (i := 212) rfl) rfl
theorem wpX10_canMeasure : (jyn iX10_canMeasure).cls ≠ "java/lang/invoke/MethodHandle" ∧ (jyn iX10_canMeasure).cls ≠ "java/lang/invoke/VarHandle" ∧ (parseMethodDescriptor (jyn iX10_canMeasure).desc).map (fun d => d.parameters.length) = some 3 := ⟨by decide +kernel, by decide +kernel, by decide +kernel⟩
theorem wcX10_isKnowledge : Cond.code (jyn iX10_isKnowledge) (jyc iX10_isKnowledge) (jyl iX10_isKnowledge) (jyr iX10_isKnowledge) ∈ jTbl := jinT4 (List.mem_of_getElem? (i := 190) rfl) rfl
theorem wiX10_isKnowledge : Cond.instanceMethod (jyn iX10_isKnowledge) ∈ jTbl := jinT4 (List.mem_of_getElem? (i := 189) rfl) rfl
theorem wlX10_isKnowledge : Cond.selects (jyn iX10_isKnowledge).cls (jyn iX10_isKnowledge) (jyn iX10_isKnowledge) ∈ jTbl := jinS3 (x := (⟨"SchoolRides", "isKnowledge", "(I)Z"⟩, 14)) 0 rfl
theorem wpX10_isKnowledge : (jyn iX10_isKnowledge).cls ≠ "java/lang/invoke/MethodHandle" ∧ (jyn iX10_isKnowledge).cls ≠ "java/lang/invoke/VarHandle" ∧ (parseMethodDescriptor (jyn iX10_isKnowledge).desc).map (fun d => d.parameters.length) = some 1 := ⟨by decide +kernel, by decide +kernel, by decide +kernel⟩
theorem wcX10_knowsChild : Cond.code (jyn iX10_knowsChild) (jyc iX10_knowsChild) (jyl iX10_knowsChild) (jyr iX10_knowsChild) ∈ jTbl := jinT4 (List.mem_of_getElem? (i := 186) rfl) rfl
theorem wiX10_knowsChild : Cond.instanceMethod (jyn iX10_knowsChild) ∈ jTbl := jinT4 (List.mem_of_getElem? (i := 185) rfl) rfl
theorem wlX10_knowsChild : Cond.selects (jyn iX10_knowsChild).cls (jyn iX10_knowsChild) (jyn iX10_knowsChild) ∈ jTbl := jinS2 (x := (⟨"SchoolRides", "knowsChild", "(II)Z"⟩, 14)) 15 rfl
theorem wpX10_knowsChild : (jyn iX10_knowsChild).cls ≠ "java/lang/invoke/MethodHandle" ∧ (jyn iX10_knowsChild).cls ≠ "java/lang/invoke/VarHandle" ∧ (parseMethodDescriptor (jyn iX10_knowsChild).desc).map (fun d => d.parameters.length) = some 2 := ⟨by decide +kernel, by decide +kernel, by decide +kernel⟩
theorem wcX10_countInText : Cond.code (jyn iX10_countInText) (jyc iX10_countInText) (jyl iX10_countInText) (jyr iX10_countInText) ∈ jTbl := jinT6 (List.mem_of_getElem? (i := 192) rfl) rfl
theorem wiX10_countInText : Cond.instanceMethod (jyn iX10_countInText) ∈ jTbl := jinT6 (List.mem_of_getElem? (i := 191) rfl) rfl
theorem wlX10_countInText : Cond.selects (jyn iX10_countInText).cls (jyn iX10_countInText) (jyn iX10_countInText) ∈ jTbl := jinS5 (x := (⟨"SchoolRides", "countInText", "(II)I"⟩, 14)) 11 rfl
theorem wpX10_countInText : (jyn iX10_countInText).cls ≠ "java/lang/invoke/MethodHandle" ∧ (jyn iX10_countInText).cls ≠ "java/lang/invoke/VarHandle" ∧ (parseMethodDescriptor (jyn iX10_countInText).desc).map (fun d => d.parameters.length) = some 2 := ⟨by decide +kernel, by decide +kernel, by decide +kernel⟩
theorem wcX10_inForce : Cond.code (jyn iX10_inForce) (jyc iX10_inForce) (jyl iX10_inForce) (jyr iX10_inForce) ∈ jTbl := jinT4 (List.mem_of_getElem? (i := 178) rfl) rfl
theorem wiX10_inForce : Cond.instanceMethod (jyn iX10_inForce) ∈ jTbl := jinT4 (List.mem_of_getElem? (i := 177) rfl) rfl
theorem wlX10_inForce : Cond.selects (jyn iX10_inForce).cls (jyn iX10_inForce) (jyn iX10_inForce) ∈ jTbl := jinS2 (x := (⟨"SchoolRides", "inForce", "(I)I"⟩, 14)) 14 rfl
theorem wpX10_inForce : (jyn iX10_inForce).cls ≠ "java/lang/invoke/MethodHandle" ∧ (jyn iX10_inForce).cls ≠ "java/lang/invoke/VarHandle" ∧ (parseMethodDescriptor (jyn iX10_inForce).desc).map (fun d => d.parameters.length) = some 1 := ⟨by decide +kernel, by decide +kernel, by decide +kernel⟩
theorem wcX10_look : Cond.code (jyn iX10_look) (jyc iX10_look) (jyl iX10_look) (jyr iX10_look) ∈ jTbl := jinT4 (List.mem_of_getElem? (i := 217) rfl) rfl
theorem wiX10_look : Cond.instanceMethod (jyn iX10_look) ∈ jTbl := jinT4 (List.mem_of_getElem? (i := 216) rfl) rfl
theorem wlX10_look : Cond.selects (jyn iX10_look).cls (jyn iX10_look) (jyn iX10_look) ∈ jTbl := jinS3 (x := (⟨"SchoolRides", "look", "(II)Z"⟩, 14)) 2 rfl
theorem wpX10_look : (jyn iX10_look).cls ≠ "java/lang/invoke/MethodHandle" ∧ (jyn iX10_look).cls ≠ "java/lang/invoke/VarHandle" ∧ (parseMethodDescriptor (jyn iX10_look).desc).map (fun d => d.parameters.length) = some 2 := ⟨by decide +kernel, by decide +kernel, by decide +kernel⟩
theorem wcX10_rightHolders : Cond.code (jyn iX10_rightHolders) (jyc iX10_rightHolders) (jyl iX10_rightHolders) (jyr iX10_rightHolders) ∈ jTbl := jinT5 (List.mem_of_getElem? (i := 51) rfl) rfl
theorem wiX10_rightHolders : Cond.instanceMethod (jyn iX10_rightHolders) ∈ jTbl := jinT5 (List.mem_of_getElem? (i := 50) rfl) rfl
theorem wlX10_rightHolders : Cond.selects (jyn iX10_rightHolders).cls (jyn iX10_rightHolders) (jyn iX10_rightHolders) ∈ jTbl := jinS3 (x := (⟨"SchoolRides", "rightHolders", "()I"⟩, 14)) 9 rfl
theorem wpX10_rightHolders : (jyn iX10_rightHolders).cls ≠ "java/lang/invoke/MethodHandle" ∧ (jyn iX10_rightHolders).cls ≠ "java/lang/invoke/VarHandle" ∧ (parseMethodDescriptor (jyn iX10_rightHolders).desc).map (fun d => d.parameters.length) = some 0 := ⟨by decide +kernel, by decide +kernel, by decide +kernel⟩
theorem wcX10_canPlan : Cond.code (jyn iX10_canPlan) (jyc iX10_canPlan) (jyl iX10_canPlan) (jyr iX10_canPlan) ∈ jTbl := jinT5 (List.mem_of_getElem? (i := 74) rfl) rfl
theorem wiX10_canPlan : Cond.instanceMethod (jyn iX10_canPlan) ∈ jTbl := jinT5 (List.mem_of_getElem? (i := 73) rfl) rfl
theorem wlX10_canPlan : Cond.selects (jyn iX10_canPlan).cls (jyn iX10_canPlan) (jyn iX10_canPlan) ∈ jTbl := jinS3 (x := (⟨"SchoolRides", "canPlan", "(III)Z"⟩, 14)) 10 rfl
theorem wpX10_canPlan : (jyn iX10_canPlan).cls ≠ "java/lang/invoke/MethodHandle" ∧ (jyn iX10_canPlan).cls ≠ "java/lang/invoke/VarHandle" ∧ (parseMethodDescriptor (jyn iX10_canPlan).desc).map (fun d => d.parameters.length) = some 3 := ⟨by decide +kernel, by decide +kernel, by decide +kernel⟩
theorem wcX10_isStopSet : Cond.code (jyn iX10_isStopSet) (jyc iX10_isStopSet) (jyl iX10_isStopSet) (jyr iX10_isStopSet) ∈ jTbl := jinT5 (List.mem_of_getElem? (i := 148) rfl) rfl
theorem wiX10_isStopSet : Cond.instanceMethod (jyn iX10_isStopSet) ∈ jTbl := jinT5 (List.mem_of_getElem? (i := 147) rfl) rfl
theorem wlX10_isStopSet : Cond.selects (jyn iX10_isStopSet).cls (jyn iX10_isStopSet) (jyn iX10_isStopSet) ∈ jTbl := jinS4 (x := (⟨"SchoolRides", "isStopSet", "(I)Z"⟩, 14)) 7 rfl
theorem wpX10_isStopSet : (jyn iX10_isStopSet).cls ≠ "java/lang/invoke/MethodHandle" ∧ (jyn iX10_isStopSet).cls ≠ "java/lang/invoke/VarHandle" ∧ (parseMethodDescriptor (jyn iX10_isStopSet).desc).map (fun d => d.parameters.length) = some 1 := ⟨by decide +kernel, by decide +kernel, by decide +kernel⟩
theorem wcX10_preparePlan : Cond.code (jyn iX10_preparePlan) (jyc iX10_preparePlan) (jyl iX10_preparePlan) (jyr iX10_preparePlan) ∈ jTbl := jinT5 (List.mem_of_getElem? (i := 78) rfl) rfl
theorem wiX10_preparePlan : Cond.instanceMethod (jyn iX10_preparePlan) ∈ jTbl := jinT5 (List.mem_of_getElem? (i := 77) rfl) rfl
theorem wlX10_preparePlan : Cond.selects (jyn iX10_preparePlan).cls (jyn iX10_preparePlan) (jyn iX10_preparePlan) ∈ jTbl := jinS3 (x := (⟨"SchoolRides", "preparePlan", "(I)V"⟩, 14)) 11 rfl
theorem wpX10_preparePlan : (jyn iX10_preparePlan).cls ≠ "java/lang/invoke/MethodHandle" ∧ (jyn iX10_preparePlan).cls ≠ "java/lang/invoke/VarHandle" ∧ (parseMethodDescriptor (jyn iX10_preparePlan).desc).map (fun d => d.parameters.length) = some 1 := ⟨by decide +kernel, by decide +kernel, by decide +kernel⟩
theorem wcX10_gatherFleet : Cond.code (jyn iX10_gatherFleet) (jyc iX10_gatherFleet) (jyl iX10_gatherFleet) (jyr iX10_gatherFleet) ∈ jTbl := jinT5 (List.mem_of_getElem? (i := 202) rfl) rfl
theorem wiX10_gatherFleet : Cond.instanceMethod (jyn iX10_gatherFleet) ∈ jTbl := jinT5 (List.mem_of_getElem? (i := 201) rfl) rfl
theorem wlX10_gatherFleet : Cond.selects (jyn iX10_gatherFleet).cls (jyn iX10_gatherFleet) (jyn iX10_gatherFleet) ∈ jTbl := jinS4 (x := (⟨"SchoolRides", "gatherFleet", "()Z"⟩, 14)) 9 rfl
theorem wpX10_gatherFleet : (jyn iX10_gatherFleet).cls ≠ "java/lang/invoke/MethodHandle" ∧ (jyn iX10_gatherFleet).cls ≠ "java/lang/invoke/VarHandle" ∧ (parseMethodDescriptor (jyn iX10_gatherFleet).desc).map (fun d => d.parameters.length) = some 0 := ⟨by decide +kernel, by decide +kernel, by decide +kernel⟩
theorem wcX10_findLent : Cond.code (jyn iX10_findLent) (jyc iX10_findLent) (jyl iX10_findLent) (jyr iX10_findLent) ∈ jTbl := jinT6 (List.mem_of_getElem? (i := 170) rfl) rfl
theorem wiX10_findLent : Cond.instanceMethod (jyn iX10_findLent) ∈ jTbl := jinT6 (List.mem_of_getElem? (i := 169) rfl) rfl
theorem wlX10_findLent : Cond.selects (jyn iX10_findLent).cls (jyn iX10_findLent) (jyn iX10_findLent) ∈ jTbl := jinS5 (x := (⟨"SchoolRides", "findLent", "(II)I"⟩, 14)) 9 rfl
theorem wpX10_findLent : (jyn iX10_findLent).cls ≠ "java/lang/invoke/MethodHandle" ∧ (jyn iX10_findLent).cls ≠ "java/lang/invoke/VarHandle" ∧ (parseMethodDescriptor (jyn iX10_findLent).desc).map (fun d => d.parameters.length) = some 2 := ⟨by decide +kernel, by decide +kernel, by decide +kernel⟩
theorem wcX10_isLent : Cond.code (jyn iX10_isLent) (jyc iX10_isLent) (jyl iX10_isLent) (jyr iX10_isLent) ∈ jTbl := jinT6 (List.mem_of_getElem? (i := 179) rfl) rfl
theorem wiX10_isLent : Cond.instanceMethod (jyn iX10_isLent) ∈ jTbl := jinT6 (List.mem_of_getElem? (i := 178) rfl) rfl
theorem wlX10_isLent : Cond.selects (jyn iX10_isLent).cls (jyn iX10_isLent) (jyn iX10_isLent) ∈ jTbl := jinS5 (x := (⟨"SchoolRides", "isLent", "(II)Z"⟩, 14)) 10 rfl
theorem wpX10_isLent : (jyn iX10_isLent).cls ≠ "java/lang/invoke/MethodHandle" ∧ (jyn iX10_isLent).cls ≠ "java/lang/invoke/VarHandle" ∧ (parseMethodDescriptor (jyn iX10_isLent).desc).map (fun d => d.parameters.length) = some 2 := ⟨by decide +kernel, by decide +kernel, by decide +kernel⟩
theorem wcX11_init : Cond.code (jyn iX11_init) (jyc iX11_init) (jyl iX11_init) (jyr iX11_init) ∈ jTbl := jinT6 (List.mem_of_getElem? (i := 197) rfl) rfl
theorem wiX11_init : Cond.instanceMethod (jyn iX11_init) ∈ jTbl := jinT6 (List.mem_of_getElem? (i := 196) rfl) rfl
theorem wnX11 : Cond.initialized RX11 ∈ jTbl := jinT1 (List.mem_of_getElem? (i := 17) rfl) rfl
theorem wpX11_init : (jyn iX11_init).cls ≠ "java/lang/invoke/MethodHandle" ∧ (jyn iX11_init).cls ≠ "java/lang/invoke/VarHandle" ∧ (parseMethodDescriptor (jyn iX11_init).desc).map (fun d => d.parameters.length) = some 0 := ⟨by decide +kernel, by decide +kernel, by decide +kernel⟩
theorem wcX11_feed : Cond.code (jyn iX11_feed) (jyc iX11_feed) (jyl iX11_feed) (jyr iX11_feed) ∈ jTbl := jinT8 (List.mem_of_getElem? (i := 38) rfl) rfl
theorem wiX11_feed : Cond.instanceMethod (jyn iX11_feed) ∈ jTbl := jinT8 (List.mem_of_getElem? (i := 36) rfl) rfl
theorem wlX11_feed : Cond.selects (jyn iX11_feed).cls (jyn iX11_feed) (jyn iX11_feed) ∈ jTbl := jinT8 (List.mem_of_getElem? (i := 37) rfl) rfl
theorem wpX11_feed : (jyn iX11_feed).cls ≠ "java/lang/invoke/MethodHandle" ∧ (jyn iX11_feed).cls ≠ "java/lang/invoke/VarHandle" ∧ (parseMethodDescriptor (jyn iX11_feed).desc).map (fun d => d.parameters.length) = some 5 := ⟨by decide +kernel, by decide +kernel, by decide +kernel⟩
theorem wcX11_typed : Cond.code (jyn iX11_typed) (jyc iX11_typed) (jyl iX11_typed) (jyr iX11_typed) ∈ jTbl := jinT8 (List.mem_of_getElem? (i := 42) rfl) rfl
theorem wiX11_typed : Cond.instanceMethod (jyn iX11_typed) ∈ jTbl := jinT8 (List.mem_of_getElem? (i := 41) rfl) rfl
theorem wlX11_typed : Cond.selects (jyn iX11_typed).cls (jyn iX11_typed) (jyn iX11_typed) ∈ jTbl := jinS5 (x := (⟨"SchoolRidesModel", "typed", "(I)V"⟩, 105)) 12 rfl
theorem wpX11_typed : (jyn iX11_typed).cls ≠ "java/lang/invoke/MethodHandle" ∧ (jyn iX11_typed).cls ≠ "java/lang/invoke/VarHandle" ∧ (parseMethodDescriptor (jyn iX11_typed).desc).map (fun d => d.parameters.length) = some 1 := ⟨by decide +kernel, by decide +kernel, by decide +kernel⟩
theorem wcX11_back : Cond.code (jyn iX11_back) (jyc iX11_back) (jyl iX11_back) (jyr iX11_back) ∈ jTbl := jinT8 (List.mem_of_getElem? (i := 46) rfl) rfl
theorem wiX11_back : Cond.instanceMethod (jyn iX11_back) ∈ jTbl := jinT8 (List.mem_of_getElem? (i := 44) rfl) rfl
theorem wlX11_back : Cond.selects (jyn iX11_back).cls (jyn iX11_back) (jyn iX11_back) ∈ jTbl := jinT8 (List.mem_of_getElem? (i := 45) rfl) rfl
theorem wpX11_back : (jyn iX11_back).cls ≠ "java/lang/invoke/MethodHandle" ∧ (jyn iX11_back).cls ≠ "java/lang/invoke/VarHandle" ∧ (parseMethodDescriptor (jyn iX11_back).desc).map (fun d => d.parameters.length) = some 1 := ⟨by decide +kernel, by decide +kernel, by decide +kernel⟩
theorem wcX11_byteAt : Cond.code (jyn iX11_byteAt) (jyc iX11_byteAt) (jyl iX11_byteAt) (jyr iX11_byteAt) ∈ jTbl := jinT8 (List.mem_of_getElem? (i := 58) rfl) rfl
theorem wiX11_byteAt : Cond.instanceMethod (jyn iX11_byteAt) ∈ jTbl := jinT8 (List.mem_of_getElem? (i := 57) rfl) rfl
theorem wlX11_byteAt : Cond.selects (jyn iX11_byteAt).cls (jyn iX11_byteAt) (jyn iX11_byteAt) ∈ jTbl := jinS5 (x := (⟨"SchoolRidesModel", "byteAt", "(I)I"⟩, 105)) 14 rfl
theorem wpX11_byteAt : (jyn iX11_byteAt).cls ≠ "java/lang/invoke/MethodHandle" ∧ (jyn iX11_byteAt).cls ≠ "java/lang/invoke/VarHandle" ∧ (parseMethodDescriptor (jyn iX11_byteAt).desc).map (fun d => d.parameters.length) = some 1 := ⟨by decide +kernel, by decide +kernel, by decide +kernel⟩
theorem wcX11_isLetter : Cond.code (jyn iX11_isLetter) (jyc iX11_isLetter) (jyl iX11_isLetter) (jyr iX11_isLetter) ∈ jTbl := jinT8 (List.mem_of_getElem? (i := 66) rfl) rfl
theorem wiX11_isLetter : Cond.instanceMethod (jyn iX11_isLetter) ∈ jTbl := jinT8 (List.mem_of_getElem? (i := 65) rfl) rfl
theorem wlX11_isLetter : Cond.selects (jyn iX11_isLetter).cls (jyn iX11_isLetter) (jyn iX11_isLetter) ∈ jTbl := jinS6 (x := (⟨"SchoolRidesModel", "isLetter", "(I)Z"⟩, 105)) 0 rfl
theorem wpX11_isLetter : (jyn iX11_isLetter).cls ≠ "java/lang/invoke/MethodHandle" ∧ (jyn iX11_isLetter).cls ≠ "java/lang/invoke/VarHandle" ∧ (parseMethodDescriptor (jyn iX11_isLetter).desc).map (fun d => d.parameters.length) = some 1 := ⟨by decide +kernel, by decide +kernel, by decide +kernel⟩
theorem wcX11_isDigit : Cond.code (jyn iX11_isDigit) (jyc iX11_isDigit) (jyl iX11_isDigit) (jyr iX11_isDigit) ∈ jTbl := jinT8 (List.mem_of_getElem? (i := 101) rfl) rfl
theorem wiX11_isDigit : Cond.instanceMethod (jyn iX11_isDigit) ∈ jTbl := jinT8 (List.mem_of_getElem? (i := 100) rfl) rfl
theorem wlX11_isDigit : Cond.selects (jyn iX11_isDigit).cls (jyn iX11_isDigit) (jyn iX11_isDigit) ∈ jTbl := jinS6 (x := (⟨"SchoolRidesModel", "isDigit", "(I)Z"⟩, 105)) 2 rfl
theorem wpX11_isDigit : (jyn iX11_isDigit).cls ≠ "java/lang/invoke/MethodHandle" ∧ (jyn iX11_isDigit).cls ≠ "java/lang/invoke/VarHandle" ∧ (parseMethodDescriptor (jyn iX11_isDigit).desc).map (fun d => d.parameters.length) = some 1 := ⟨by decide +kernel, by decide +kernel, by decide +kernel⟩
theorem wcX11_token : Cond.code (jyn iX11_token) (jyc iX11_token) (jyl iX11_token) (jyr iX11_token) ∈ jTbl := jinT8 (List.mem_of_getElem? (i := 97) rfl) rfl
theorem wiX11_token : Cond.instanceMethod (jyn iX11_token) ∈ jTbl := jinT8 (List.mem_of_getElem? (i := 96) rfl) rfl
theorem wlX11_token : Cond.selects (jyn iX11_token).cls (jyn iX11_token) (jyn iX11_token) ∈ jTbl := jinS6 (x := (⟨"SchoolRidesModel", "token", "(III)V"⟩, 105)) 1 rfl
theorem wpX11_token : (jyn iX11_token).cls ≠ "java/lang/invoke/MethodHandle" ∧ (jyn iX11_token).cls ≠ "java/lang/invoke/VarHandle" ∧ (parseMethodDescriptor (jyn iX11_token).desc).map (fun d => d.parameters.length) = some 3 := ⟨by decide +kernel, by decide +kernel, by decide +kernel⟩
theorem wcX11_wordOf : Cond.code (jyn iX11_wordOf) (jyc iX11_wordOf) (jyl iX11_wordOf) (jyr iX11_wordOf) ∈ jTbl := jinT8 (List.mem_of_getElem? (i := 71) rfl) rfl
theorem wtX11_wordOf : Cond.static (jyn iX11_wordOf) ∈ jTbl := jinT8 (List.mem_of_getElem? (i := 70) rfl) rfl
theorem wpX11_wordOf : (jyn iX11_wordOf).cls ≠ "java/lang/invoke/MethodHandle" ∧ (jyn iX11_wordOf).cls ≠ "java/lang/invoke/VarHandle" ∧ (parseMethodDescriptor (jyn iX11_wordOf).desc).map (fun d => d.parameters.length) = some 1 := ⟨by decide +kernel, by decide +kernel, by decide +kernel⟩
theorem wcX11_signAt : Cond.code (jyn iX11_signAt) (jyc iX11_signAt) (jyl iX11_signAt) (jyr iX11_signAt) ∈ jTbl := jinT8 (List.mem_of_getElem? (i := 105) rfl) rfl
theorem wiX11_signAt : Cond.instanceMethod (jyn iX11_signAt) ∈ jTbl := jinT8 (List.mem_of_getElem? (i := 104) rfl) rfl
theorem wlX11_signAt : Cond.selects (jyn iX11_signAt).cls (jyn iX11_signAt) (jyn iX11_signAt) ∈ jTbl := jinS6 (x := (⟨"SchoolRidesModel", "signAt", "(I)I"⟩, 105)) 3 rfl
theorem wpX11_signAt : (jyn iX11_signAt).cls ≠ "java/lang/invoke/MethodHandle" ∧ (jyn iX11_signAt).cls ≠ "java/lang/invoke/VarHandle" ∧ (parseMethodDescriptor (jyn iX11_signAt).desc).map (fun d => d.parameters.length) = some 1 := ⟨by decide +kernel, by decide +kernel, by decide +kernel⟩
theorem wcX11_scan : Cond.code (jyn iX11_scan) (jyc iX11_scan) (jyl iX11_scan) (jyr iX11_scan) ∈ jTbl := jinT8 (List.mem_of_getElem? (i := 62) rfl) rfl
theorem wiX11_scan : Cond.instanceMethod (jyn iX11_scan) ∈ jTbl := jinT8 (List.mem_of_getElem? (i := 61) rfl) rfl
theorem wlX11_scan : Cond.selects (jyn iX11_scan).cls (jyn iX11_scan) (jyn iX11_scan) ∈ jTbl := jinS5 (x := (⟨"SchoolRidesModel", "scan", "(I)I"⟩, 105)) 15 rfl
theorem wpX11_scan : (jyn iX11_scan).cls ≠ "java/lang/invoke/MethodHandle" ∧ (jyn iX11_scan).cls ≠ "java/lang/invoke/VarHandle" ∧ (parseMethodDescriptor (jyn iX11_scan).desc).map (fun d => d.parameters.length) = some 1 := ⟨by decide +kernel, by decide +kernel, by decide +kernel⟩
theorem wcX11_scanAll : Cond.code (jyn iX11_scanAll) (jyc iX11_scanAll) (jyl iX11_scanAll) (jyr iX11_scanAll) ∈ jTbl := jinT8 (List.mem_of_getElem? (i := 54) rfl) rfl
theorem wiX11_scanAll : Cond.instanceMethod (jyn iX11_scanAll) ∈ jTbl := jinT8 (List.mem_of_getElem? (i := 53) rfl) rfl
theorem wlX11_scanAll : Cond.selects (jyn iX11_scanAll).cls (jyn iX11_scanAll) (jyn iX11_scanAll) ∈ jTbl := jinS5 (x := (⟨"SchoolRidesModel", "scanAll", "()V"⟩, 105)) 13 rfl
theorem wpX11_scanAll : (jyn iX11_scanAll).cls ≠ "java/lang/invoke/MethodHandle" ∧ (jyn iX11_scanAll).cls ≠ "java/lang/invoke/VarHandle" ∧ (parseMethodDescriptor (jyn iX11_scanAll).desc).map (fun d => d.parameters.length) = some 0 := ⟨by decide +kernel, by decide +kernel, by decide +kernel⟩
theorem wcX11_wrong : Cond.code (jyn iX11_wrong) (jyc iX11_wrong) (jyl iX11_wrong) (jyr iX11_wrong) ∈ jTbl := jinT8 (List.mem_of_getElem? (i := 121) rfl) rfl
theorem wiX11_wrong : Cond.instanceMethod (jyn iX11_wrong) ∈ jTbl := jinT8 (List.mem_of_getElem? (i := 120) rfl) rfl
theorem wlX11_wrong : Cond.selects (jyn iX11_wrong).cls (jyn iX11_wrong) (jyn iX11_wrong) ∈ jTbl := jinS6 (x := (⟨"SchoolRidesModel", "wrong", "(I)Z"⟩, 105)) 7 rfl
theorem wpX11_wrong : (jyn iX11_wrong).cls ≠ "java/lang/invoke/MethodHandle" ∧ (jyn iX11_wrong).cls ≠ "java/lang/invoke/VarHandle" ∧ (parseMethodDescriptor (jyn iX11_wrong).desc).map (fun d => d.parameters.length) = some 1 := ⟨by decide +kernel, by decide +kernel, by decide +kernel⟩
theorem wcX11_tells : Cond.code (jyn iX11_tells) (jyc iX11_tells) (jyl iX11_tells) (jyr iX11_tells) ∈ jTbl := jinT8 (List.mem_of_getElem? (i := 137) rfl) rfl
theorem wiX11_tells : Cond.instanceMethod (jyn iX11_tells) ∈ jTbl := jinT8 (List.mem_of_getElem? (i := 136) rfl) rfl
theorem wlX11_tells : Cond.selects (jyn iX11_tells).cls (jyn iX11_tells) (jyn iX11_tells) ∈ jTbl := jinS6 (x := (⟨"SchoolRidesModel", "tells", "(II)V"⟩, 105)) 11 rfl
theorem wpX11_tells : (jyn iX11_tells).cls ≠ "java/lang/invoke/MethodHandle" ∧ (jyn iX11_tells).cls ≠ "java/lang/invoke/VarHandle" ∧ (parseMethodDescriptor (jyn iX11_tells).desc).map (fun d => d.parameters.length) = some 2 := ⟨by decide +kernel, by decide +kernel, by decide +kernel⟩
theorem wcX11_pass : Cond.code (jyn iX11_pass) (jyc iX11_pass) (jyl iX11_pass) (jyr iX11_pass) ∈ jTbl := jinT8 (List.mem_of_getElem? (i := 125) rfl) rfl
theorem wiX11_pass : Cond.instanceMethod (jyn iX11_pass) ∈ jTbl := jinT8 (List.mem_of_getElem? (i := 124) rfl) rfl
theorem wlX11_pass : Cond.selects (jyn iX11_pass).cls (jyn iX11_pass) (jyn iX11_pass) ∈ jTbl := jinS6 (x := (⟨"SchoolRidesModel", "pass", "()Z"⟩, 105)) 8 rfl
theorem wpX11_pass : (jyn iX11_pass).cls ≠ "java/lang/invoke/MethodHandle" ∧ (jyn iX11_pass).cls ≠ "java/lang/invoke/VarHandle" ∧ (parseMethodDescriptor (jyn iX11_pass).desc).map (fun d => d.parameters.length) = some 0 := ⟨by decide +kernel, by decide +kernel, by decide +kernel⟩
theorem wcX11_isSign : Cond.code (jyn iX11_isSign) (jyc iX11_isSign) (jyl iX11_isSign) (jyr iX11_isSign) ∈ jTbl := jinT8 (List.mem_of_getElem? (i := 177) rfl) rfl
theorem wiX11_isSign : Cond.instanceMethod (jyn iX11_isSign) ∈ jTbl := jinT8 (List.mem_of_getElem? (i := 176) rfl) rfl
theorem wlX11_isSign : Cond.selects (jyn iX11_isSign).cls (jyn iX11_isSign) (jyn iX11_isSign) ∈ jTbl := jinS7 (x := (⟨"SchoolRidesModel", "isSign", "(I)Z"⟩, 105)) 5 rfl
theorem wpX11_isSign : (jyn iX11_isSign).cls ≠ "java/lang/invoke/MethodHandle" ∧ (jyn iX11_isSign).cls ≠ "java/lang/invoke/VarHandle" ∧ (parseMethodDescriptor (jyn iX11_isSign).desc).map (fun d => d.parameters.length) = some 1 := ⟨by decide +kernel, by decide +kernel, by decide +kernel⟩
theorem wcX11_isWord : Cond.code (jyn iX11_isWord) (jyc iX11_isWord) (jyl iX11_isWord) (jyr iX11_isWord) ∈ jTbl := jinT8 (List.mem_of_getElem? (i := 153) rfl) rfl
theorem wiX11_isWord : Cond.instanceMethod (jyn iX11_isWord) ∈ jTbl := jinT8 (List.mem_of_getElem? (i := 152) rfl) rfl
theorem wlX11_isWord : Cond.selects (jyn iX11_isWord).cls (jyn iX11_isWord) (jyn iX11_isWord) ∈ jTbl := jinS6 (x := (⟨"SchoolRidesModel", "isWord", "(I)Z"⟩, 105)) 15 rfl
theorem wpX11_isWord : (jyn iX11_isWord).cls ≠ "java/lang/invoke/MethodHandle" ∧ (jyn iX11_isWord).cls ≠ "java/lang/invoke/VarHandle" ∧ (parseMethodDescriptor (jyn iX11_isWord).desc).map (fun d => d.parameters.length) = some 1 := ⟨by decide +kernel, by decide +kernel, by decide +kernel⟩
theorem wcX11_takes : Cond.code (jyn iX11_takes) (jyc iX11_takes) (jyl iX11_takes) (jyr iX11_takes) ∈ jTbl := jinT8 (List.mem_of_getElem? (i := 133) rfl) rfl
theorem wiX11_takes : Cond.instanceMethod (jyn iX11_takes) ∈ jTbl := jinT8 (List.mem_of_getElem? (i := 132) rfl) rfl
theorem wlX11_takes : Cond.selects (jyn iX11_takes).cls (jyn iX11_takes) (jyn iX11_takes) ∈ jTbl := jinS6 (x := (⟨"SchoolRidesModel", "takes", "(I)Z"⟩, 105)) 10 rfl
theorem wpX11_takes : (jyn iX11_takes).cls ≠ "java/lang/invoke/MethodHandle" ∧ (jyn iX11_takes).cls ≠ "java/lang/invoke/VarHandle" ∧ (parseMethodDescriptor (jyn iX11_takes).desc).map (fun d => d.parameters.length) = some 1 := ⟨by decide +kernel, by decide +kernel, by decide +kernel⟩
theorem wcX11_takesInt : Cond.code (jyn iX11_takesInt) (jyc iX11_takesInt) (jyl iX11_takesInt) (jyr iX11_takesInt) ∈ jTbl := jinT8 (List.mem_of_getElem? (i := 149) rfl) rfl
theorem wiX11_takesInt : Cond.instanceMethod (jyn iX11_takesInt) ∈ jTbl := jinT8 (List.mem_of_getElem? (i := 148) rfl) rfl
theorem wlX11_takesInt : Cond.selects (jyn iX11_takesInt).cls (jyn iX11_takesInt) (jyn iX11_takesInt) ∈ jTbl := jinS6 (x := (⟨"SchoolRidesModel", "takesInt", "(II)Z"⟩, 105)) 14 rfl
theorem wpX11_takesInt : (jyn iX11_takesInt).cls ≠ "java/lang/invoke/MethodHandle" ∧ (jyn iX11_takesInt).cls ≠ "java/lang/invoke/VarHandle" ∧ (parseMethodDescriptor (jyn iX11_takesInt).desc).map (fun d => d.parameters.length) = some 2 := ⟨by decide +kernel, by decide +kernel, by decide +kernel⟩
theorem wcX11_emit : Cond.code (jyn iX11_emit) (jyc iX11_emit) (jyl iX11_emit) (jyr iX11_emit) ∈ jTbl := jinT8 (List.mem_of_getElem? (i := 188) rfl) rfl
theorem wiX11_emit : Cond.instanceMethod (jyn iX11_emit) ∈ jTbl := jinT8 (List.mem_of_getElem? (i := 187) rfl) rfl
theorem wlX11_emit : Cond.selects (jyn iX11_emit).cls (jyn iX11_emit) (jyn iX11_emit) ∈ jTbl := jinS7 (x := (⟨"SchoolRidesModel", "emit", "(II)V"⟩, 105)) 7 rfl
theorem wpX11_emit : (jyn iX11_emit).cls ≠ "java/lang/invoke/MethodHandle" ∧ (jyn iX11_emit).cls ≠ "java/lang/invoke/VarHandle" ∧ (parseMethodDescriptor (jyn iX11_emit).desc).map (fun d => d.parameters.length) = some 2 := ⟨by decide +kernel, by decide +kernel, by decide +kernel⟩
theorem wcX11_rank : Cond.code (jyn iX11_rank) (jyc iX11_rank) (jyl iX11_rank) (jyr iX11_rank) ∈ jTbl := jinT8 (List.mem_of_getElem? (i := 195) rfl) rfl
theorem wtX11_rank : Cond.static (jyn iX11_rank) ∈ jTbl := jinT8 (List.mem_of_getElem? (i := 194) rfl) rfl
theorem wpX11_rank : (jyn iX11_rank).cls ≠ "java/lang/invoke/MethodHandle" ∧ (jyn iX11_rank).cls ≠ "java/lang/invoke/VarHandle" ∧ (parseMethodDescriptor (jyn iX11_rank).desc).map (fun d => d.parameters.length) = some 1 := ⟨by decide +kernel, by decide +kernel, by decide +kernel⟩
theorem wcX11_reduce : Cond.code (jyn iX11_reduce) (jyc iX11_reduce) (jyl iX11_reduce) (jyr iX11_reduce) ∈ jTbl := jinT8 (List.mem_of_getElem? (i := 192) rfl) rfl
theorem wiX11_reduce : Cond.instanceMethod (jyn iX11_reduce) ∈ jTbl := jinT8 (List.mem_of_getElem? (i := 191) rfl) rfl
theorem wlX11_reduce : Cond.selects (jyn iX11_reduce).cls (jyn iX11_reduce) (jyn iX11_reduce) ∈ jTbl := jinS7 (x := (⟨"SchoolRidesModel", "reduce", "(II)V"⟩, 105)) 8 rfl
theorem wpX11_reduce : (jyn iX11_reduce).cls ≠ "java/lang/invoke/MethodHandle" ∧ (jyn iX11_reduce).cls ≠ "java/lang/invoke/VarHandle" ∧ (parseMethodDescriptor (jyn iX11_reduce).desc).map (fun d => d.parameters.length) = some 2 := ⟨by decide +kernel, by decide +kernel, by decide +kernel⟩
theorem wcX11_await : Cond.code (jyn iX11_await) (jyc iX11_await) (jyl iX11_await) (jyr iX11_await) ∈ jTbl := jinT8 (List.mem_of_getElem? (i := 181) rfl) rfl
theorem wiX11_await : Cond.instanceMethod (jyn iX11_await) ∈ jTbl := jinT8 (List.mem_of_getElem? (i := 180) rfl) rfl
theorem wlX11_await : Cond.selects (jyn iX11_await).cls (jyn iX11_await) (jyn iX11_await) ∈ jTbl := jinS7 (x := (⟨"SchoolRidesModel", "await", "(I)V"⟩, 105)) 6 rfl
theorem wpX11_await : (jyn iX11_await).cls ≠ "java/lang/invoke/MethodHandle" ∧ (jyn iX11_await).cls ≠ "java/lang/invoke/VarHandle" ∧ (parseMethodDescriptor (jyn iX11_await).desc).map (fun d => d.parameters.length) = some 1 := ⟨by decide +kernel, by decide +kernel, by decide +kernel⟩
theorem wcX11_variableOf : Cond.code (jyn iX11_variableOf) (jyc iX11_variableOf) (jyl iX11_variableOf) (jyr iX11_variableOf) ∈ jTbl := jinT8 (List.mem_of_getElem? (i := 184) rfl) rfl
theorem wtX11_variableOf : Cond.static (jyn iX11_variableOf) ∈ jTbl := jinT8 (List.mem_of_getElem? (i := 183) rfl) rfl
theorem wpX11_variableOf : (jyn iX11_variableOf).cls ≠ "java/lang/invoke/MethodHandle" ∧ (jyn iX11_variableOf).cls ≠ "java/lang/invoke/VarHandle" ∧ (parseMethodDescriptor (jyn iX11_variableOf).desc).map (fun d => d.parameters.length) = some 1 := ⟨by decide +kernel, by decide +kernel, by decide +kernel⟩
theorem wcX11_expr : Cond.code (jyn iX11_expr) (jyc iX11_expr) (jyl iX11_expr) (jyr iX11_expr) ∈ jTbl := jinT8 (List.mem_of_getElem? (i := 173) rfl) rfl
theorem wiX11_expr : Cond.instanceMethod (jyn iX11_expr) ∈ jTbl := jinT8 (List.mem_of_getElem? (i := 172) rfl) rfl
theorem wlX11_expr : Cond.selects (jyn iX11_expr).cls (jyn iX11_expr) (jyn iX11_expr) ∈ jTbl := jinS7 (x := (⟨"SchoolRidesModel", "expr", "()Z"⟩, 105)) 4 rfl
theorem wpX11_expr : (jyn iX11_expr).cls ≠ "java/lang/invoke/MethodHandle" ∧ (jyn iX11_expr).cls ≠ "java/lang/invoke/VarHandle" ∧ (parseMethodDescriptor (jyn iX11_expr).desc).map (fun d => d.parameters.length) = some 0 := ⟨by decide +kernel, by decide +kernel, by decide +kernel⟩
theorem wcX11_cond : Cond.code (jyn iX11_cond) (jyc iX11_cond) (jyl iX11_cond) (jyr iX11_cond) ∈ jTbl := jinT8 (List.mem_of_getElem? (i := 169) rfl) rfl
theorem wiX11_cond : Cond.instanceMethod (jyn iX11_cond) ∈ jTbl := jinT8 (List.mem_of_getElem? (i := 168) rfl) rfl
theorem wlX11_cond : Cond.selects (jyn iX11_cond).cls (jyn iX11_cond) (jyn iX11_cond) ∈ jTbl := jinS7 (x := (⟨"SchoolRidesModel", "cond", "()Z"⟩, 105)) 3 rfl
theorem wpX11_cond : (jyn iX11_cond).cls ≠ "java/lang/invoke/MethodHandle" ∧ (jyn iX11_cond).cls ≠ "java/lang/invoke/VarHandle" ∧ (parseMethodDescriptor (jyn iX11_cond).desc).map (fun d => d.parameters.length) = some 0 := ⟨by decide +kernel, by decide +kernel, by decide +kernel⟩
theorem wcX11_begin : Cond.code (jyn iX11_begin) (jyc iX11_begin) (jyl iX11_begin) (jyr iX11_begin) ∈ jTbl := jinT8 (List.mem_of_getElem? (i := 109) rfl) rfl
theorem wiX11_begin : Cond.instanceMethod (jyn iX11_begin) ∈ jTbl := jinT8 (List.mem_of_getElem? (i := 108) rfl) rfl
theorem wlX11_begin : Cond.selects (jyn iX11_begin).cls (jyn iX11_begin) (jyn iX11_begin) ∈ jTbl := jinS6 (x := (⟨"SchoolRidesModel", "begin", "(I)V"⟩, 105)) 4 rfl
theorem wpX11_begin : (jyn iX11_begin).cls ≠ "java/lang/invoke/MethodHandle" ∧ (jyn iX11_begin).cls ≠ "java/lang/invoke/VarHandle" ∧ (parseMethodDescriptor (jyn iX11_begin).desc).map (fun d => d.parameters.length) = some 1 := ⟨by decide +kernel, by decide +kernel, by decide +kernel⟩
theorem wcX11_placeAt : Cond.code (jyn iX11_placeAt) (jyc iX11_placeAt) (jyl iX11_placeAt) (jyr iX11_placeAt) ∈ jTbl := jinT8 (List.mem_of_getElem? (i := 145) rfl) rfl
theorem wiX11_placeAt : Cond.instanceMethod (jyn iX11_placeAt) ∈ jTbl := jinT8 (List.mem_of_getElem? (i := 144) rfl) rfl
theorem wlX11_placeAt : Cond.selects (jyn iX11_placeAt).cls (jyn iX11_placeAt) (jyn iX11_placeAt) ∈ jTbl := jinS6 (x := (⟨"SchoolRidesModel", "placeAt", "(I)I"⟩, 105)) 13 rfl
theorem wpX11_placeAt : (jyn iX11_placeAt).cls ≠ "java/lang/invoke/MethodHandle" ∧ (jyn iX11_placeAt).cls ≠ "java/lang/invoke/VarHandle" ∧ (parseMethodDescriptor (jyn iX11_placeAt).desc).map (fun d => d.parameters.length) = some 1 := ⟨by decide +kernel, by decide +kernel, by decide +kernel⟩
theorem wcX11_names : Cond.code (jyn iX11_names) (jyc iX11_names) (jyl iX11_names) (jyr iX11_names) ∈ jTbl := jinT8 (List.mem_of_getElem? (i := 129) rfl) rfl
theorem wiX11_names : Cond.instanceMethod (jyn iX11_names) ∈ jTbl := jinT8 (List.mem_of_getElem? (i := 128) rfl) rfl
theorem wlX11_names : Cond.selects (jyn iX11_names).cls (jyn iX11_names) (jyn iX11_names) ∈ jTbl := jinS6 (x := (⟨"SchoolRidesModel", "names", "(I)Z"⟩, 105)) 9 rfl
theorem wpX11_names : (jyn iX11_names).cls ≠ "java/lang/invoke/MethodHandle" ∧ (jyn iX11_names).cls ≠ "java/lang/invoke/VarHandle" ∧ (parseMethodDescriptor (jyn iX11_names).desc).map (fun d => d.parameters.length) = some 1 := ⟨by decide +kernel, by decide +kernel, by decide +kernel⟩
theorem wcX11_tellWay : Cond.code (jyn iX11_tellWay) (jyc iX11_tellWay) (jyl iX11_tellWay) (jyr iX11_tellWay) ∈ jTbl := jinT8 (List.mem_of_getElem? (i := 141) rfl) rfl
theorem wiX11_tellWay : Cond.instanceMethod (jyn iX11_tellWay) ∈ jTbl := jinT8 (List.mem_of_getElem? (i := 140) rfl) rfl
theorem wlX11_tellWay : Cond.selects (jyn iX11_tellWay).cls (jyn iX11_tellWay) (jyn iX11_tellWay) ∈ jTbl := jinS6 (x := (⟨"SchoolRidesModel", "tellWay", "()Z"⟩, 105)) 12 rfl
theorem wpX11_tellWay : (jyn iX11_tellWay).cls ≠ "java/lang/invoke/MethodHandle" ∧ (jyn iX11_tellWay).cls ≠ "java/lang/invoke/VarHandle" ∧ (parseMethodDescriptor (jyn iX11_tellWay).desc).map (fun d => d.parameters.length) = some 0 := ⟨by decide +kernel, by decide +kernel, by decide +kernel⟩
theorem wcX11_tellSchool : Cond.code (jyn iX11_tellSchool) (jyc iX11_tellSchool) (jyl iX11_tellSchool) (jyr iX11_tellSchool) ∈ jTbl := jinT8 (List.mem_of_getElem? (i := 157) rfl) rfl
theorem wiX11_tellSchool : Cond.instanceMethod (jyn iX11_tellSchool) ∈ jTbl := jinT8 (List.mem_of_getElem? (i := 156) rfl) rfl
theorem wlX11_tellSchool : Cond.selects (jyn iX11_tellSchool).cls (jyn iX11_tellSchool) (jyn iX11_tellSchool) ∈ jTbl := jinS7 (x := (⟨"SchoolRidesModel", "tellSchool", "()Z"⟩, 105)) 0 rfl
theorem wpX11_tellSchool : (jyn iX11_tellSchool).cls ≠ "java/lang/invoke/MethodHandle" ∧ (jyn iX11_tellSchool).cls ≠ "java/lang/invoke/VarHandle" ∧ (parseMethodDescriptor (jyn iX11_tellSchool).desc).map (fun d => d.parameters.length) = some 0 := ⟨by decide +kernel, by decide +kernel, by decide +kernel⟩
theorem wcX11_tellStop : Cond.code (jyn iX11_tellStop) (jyc iX11_tellStop) (jyl iX11_tellStop) (jyr iX11_tellStop) ∈ jTbl := jinT8 (List.mem_of_getElem? (i := 161) rfl) rfl
theorem wiX11_tellStop : Cond.instanceMethod (jyn iX11_tellStop) ∈ jTbl := jinT8 (List.mem_of_getElem? (i := 160) rfl) rfl
theorem wlX11_tellStop : Cond.selects (jyn iX11_tellStop).cls (jyn iX11_tellStop) (jyn iX11_tellStop) ∈ jTbl := jinS7 (x := (⟨"SchoolRidesModel", "tellStop", "()Z"⟩, 105)) 1 rfl
theorem wpX11_tellStop : (jyn iX11_tellStop).cls ≠ "java/lang/invoke/MethodHandle" ∧ (jyn iX11_tellStop).cls ≠ "java/lang/invoke/VarHandle" ∧ (parseMethodDescriptor (jyn iX11_tellStop).desc).map (fun d => d.parameters.length) = some 0 := ⟨by decide +kernel, by decide +kernel, by decide +kernel⟩
theorem wcX11_tellRight : Cond.code (jyn iX11_tellRight) (jyc iX11_tellRight) (jyl iX11_tellRight) (jyr iX11_tellRight) ∈ jTbl := jinT8 (List.mem_of_getElem? (i := 165) rfl) rfl
theorem wiX11_tellRight : Cond.instanceMethod (jyn iX11_tellRight) ∈ jTbl := jinT8 (List.mem_of_getElem? (i := 164) rfl) rfl
theorem wlX11_tellRight : Cond.selects (jyn iX11_tellRight).cls (jyn iX11_tellRight) (jyn iX11_tellRight) ∈ jTbl := jinS7 (x := (⟨"SchoolRidesModel", "tellRight", "()Z"⟩, 105)) 2 rfl
theorem wpX11_tellRight : (jyn iX11_tellRight).cls ≠ "java/lang/invoke/MethodHandle" ∧ (jyn iX11_tellRight).cls ≠ "java/lang/invoke/VarHandle" ∧ (parseMethodDescriptor (jyn iX11_tellRight).desc).map (fun d => d.parameters.length) = some 0 := ⟨by decide +kernel, by decide +kernel, by decide +kernel⟩
theorem wcX11_tellNumber : Cond.code (jyn iX11_tellNumber) (jyc iX11_tellNumber) (jyl iX11_tellNumber) (jyr iX11_tellNumber) ∈ jTbl := jinT8 (List.mem_of_getElem? (i := 199) rfl) rfl
theorem wiX11_tellNumber : Cond.instanceMethod (jyn iX11_tellNumber) ∈ jTbl := jinT8 (List.mem_of_getElem? (i := 198) rfl) rfl
theorem wlX11_tellNumber : Cond.selects (jyn iX11_tellNumber).cls (jyn iX11_tellNumber) (jyn iX11_tellNumber) ∈ jTbl := jinS7 (x := (⟨"SchoolRidesModel", "tellNumber", "(II)Z"⟩, 105)) 9 rfl
theorem wpX11_tellNumber : (jyn iX11_tellNumber).cls ≠ "java/lang/invoke/MethodHandle" ∧ (jyn iX11_tellNumber).cls ≠ "java/lang/invoke/VarHandle" ∧ (parseMethodDescriptor (jyn iX11_tellNumber).desc).map (fun d => d.parameters.length) = some 2 := ⟨by decide +kernel, by decide +kernel, by decide +kernel⟩
theorem wcX11_tell : Cond.code (jyn iX11_tell) (jyc iX11_tell) (jyl iX11_tell) (jyr iX11_tell) ∈ jTbl := jinT8 (List.mem_of_getElem? (i := 117) rfl) rfl
theorem wiX11_tell : Cond.instanceMethod (jyn iX11_tell) ∈ jTbl := jinT8 (List.mem_of_getElem? (i := 116) rfl) rfl
theorem wlX11_tell : Cond.selects (jyn iX11_tell).cls (jyn iX11_tell) (jyn iX11_tell) ∈ jTbl := jinS6 (x := (⟨"SchoolRidesModel", "tell", "()Z"⟩, 105)) 6 rfl
theorem wpX11_tell : (jyn iX11_tell).cls ≠ "java/lang/invoke/MethodHandle" ∧ (jyn iX11_tell).cls ≠ "java/lang/invoke/VarHandle" ∧ (parseMethodDescriptor (jyn iX11_tell).desc).map (fun d => d.parameters.length) = some 0 := ⟨by decide +kernel, by decide +kernel, by decide +kernel⟩
theorem wcX11_parses : Cond.code (jyn iX11_parses) (jyc iX11_parses) (jyl iX11_parses) (jyr iX11_parses) ∈ jTbl := jinT8 (List.mem_of_getElem? (i := 113) rfl) rfl
theorem wiX11_parses : Cond.instanceMethod (jyn iX11_parses) ∈ jTbl := jinT8 (List.mem_of_getElem? (i := 112) rfl) rfl
theorem wlX11_parses : Cond.selects (jyn iX11_parses).cls (jyn iX11_parses) (jyn iX11_parses) ∈ jTbl := jinS6 (x := (⟨"SchoolRidesModel", "parses", "()Z"⟩, 105)) 5 rfl
theorem wpX11_parses : (jyn iX11_parses).cls ≠ "java/lang/invoke/MethodHandle" ∧ (jyn iX11_parses).cls ≠ "java/lang/invoke/VarHandle" ∧ (parseMethodDescriptor (jyn iX11_parses).desc).map (fun d => d.parameters.length) = some 0 := ⟨by decide +kernel, by decide +kernel, by decide +kernel⟩
theorem wcX11_read : Cond.code (jyn iX11_read) (jyc iX11_read) (jyl iX11_read) (jyr iX11_read) ∈ jTbl := jinT8 (List.mem_of_getElem? (i := 50) rfl) rfl
theorem wiX11_read : Cond.instanceMethod (jyn iX11_read) ∈ jTbl := jinT8 (List.mem_of_getElem? (i := 48) rfl) rfl
theorem wlX11_read : Cond.selects (jyn iX11_read).cls (jyn iX11_read) (jyn iX11_read) ∈ jTbl := jinT8 (List.mem_of_getElem? (i := 49) rfl) rfl
theorem wpX11_read : (jyn iX11_read).cls ≠ "java/lang/invoke/MethodHandle" ∧ (jyn iX11_read).cls ≠ "java/lang/invoke/VarHandle" ∧ (parseMethodDescriptor (jyn iX11_read).desc).map (fun d => d.parameters.length) = some 1 := ⟨by decide +kernel, by decide +kernel, by decide +kernel⟩
theorem wcX11_place : Cond.code (jyn iX11_place) (jyc iX11_place) (jyl iX11_place) (jyr iX11_place) ∈ jTbl := jinT8 (List.mem_of_getElem? (i := 203) rfl) rfl
theorem wiX11_place : Cond.instanceMethod (jyn iX11_place) ∈ jTbl := jinT8 (List.mem_of_getElem? (i := 201) rfl) rfl
theorem wlX11_place : Cond.selects (jyn iX11_place).cls (jyn iX11_place) (jyn iX11_place) ∈ jTbl := jinT8 (List.mem_of_getElem? (i := 202) rfl) rfl
theorem wpX11_place : (jyn iX11_place).cls ≠ "java/lang/invoke/MethodHandle" ∧ (jyn iX11_place).cls ≠ "java/lang/invoke/VarHandle" ∧ (parseMethodDescriptor (jyn iX11_place).desc).map (fun d => d.parameters.length) = some 0 := ⟨by decide +kernel, by decide +kernel, by decide +kernel⟩
theorem wcX11_fact : Cond.code (jyn iX11_fact) (jyc iX11_fact) (jyl iX11_fact) (jyr iX11_fact) ∈ jTbl := jinT8 (List.mem_of_getElem? (i := 214) rfl) rfl
theorem wiX11_fact : Cond.instanceMethod (jyn iX11_fact) ∈ jTbl := jinT8 (List.mem_of_getElem? (i := 213) rfl) rfl
theorem wlX11_fact : Cond.selects (jyn iX11_fact).cls (jyn iX11_fact) (jyn iX11_fact) ∈ jTbl := jinS7 (x := (⟨"SchoolRidesModel", "fact", "(IIIII)I"⟩, 105)) 10 rfl
theorem wpX11_fact : (jyn iX11_fact).cls ≠ "java/lang/invoke/MethodHandle" ∧ (jyn iX11_fact).cls ≠ "java/lang/invoke/VarHandle" ∧ (parseMethodDescriptor (jyn iX11_fact).desc).map (fun d => d.parameters.length) = some 5 := ⟨by decide +kernel, by decide +kernel, by decide +kernel⟩
theorem wcX11_isIn : Cond.code (jyn iX11_isIn) (jyc iX11_isIn) (jyl iX11_isIn) (jyr iX11_isIn) ∈ jTbl := jinT8 (List.mem_of_getElem? (i := 210) rfl) rfl
theorem wtX11_isIn : Cond.static (jyn iX11_isIn) ∈ jTbl := jinT8 (List.mem_of_getElem? (i := 209) rfl) rfl
theorem wpX11_isIn : (jyn iX11_isIn).cls ≠ "java/lang/invoke/MethodHandle" ∧ (jyn iX11_isIn).cls ≠ "java/lang/invoke/VarHandle" ∧ (parseMethodDescriptor (jyn iX11_isIn).desc).map (fun d => d.parameters.length) = some 3 := ⟨by decide +kernel, by decide +kernel, by decide +kernel⟩
theorem wcX11_isChild : Cond.code (jyn iX11_isChild) (jyc iX11_isChild) (jyl iX11_isChild) (jyr iX11_isChild) ∈ jTbl := jinT8 (List.mem_of_getElem? (i := 222) rfl) rfl
theorem wiX11_isChild : Cond.instanceMethod (jyn iX11_isChild) ∈ jTbl := jinT8 (List.mem_of_getElem? (i := 221) rfl) rfl
theorem wlX11_isChild : Cond.selects (jyn iX11_isChild).cls (jyn iX11_isChild) (jyn iX11_isChild) ∈ jTbl := jinS7 (x := (⟨"SchoolRidesModel", "isChild", "(I)Z"⟩, 105)) 11 rfl
theorem wpX11_isChild : (jyn iX11_isChild).cls ≠ "java/lang/invoke/MethodHandle" ∧ (jyn iX11_isChild).cls ≠ "java/lang/invoke/VarHandle" ∧ (parseMethodDescriptor (jyn iX11_isChild).desc).map (fun d => d.parameters.length) = some 1 := ⟨by decide +kernel, by decide +kernel, by decide +kernel⟩
theorem wcX11_child : Cond.code (jyn iX11_child) (jyc iX11_child) (jyl iX11_child) (jyr iX11_child) ∈ jTbl := jinT8 (List.mem_of_getElem? (i := 207) rfl) rfl
theorem wiX11_child : Cond.instanceMethod (jyn iX11_child) ∈ jTbl := jinT8 (List.mem_of_getElem? (i := 205) rfl) rfl
theorem wlX11_child : Cond.selects (jyn iX11_child).cls (jyn iX11_child) (jyn iX11_child) ∈ jTbl := jinT8 (List.mem_of_getElem? (i := 206) rfl) rfl
theorem wpX11_child : (jyn iX11_child).cls ≠ "java/lang/invoke/MethodHandle" ∧ (jyn iX11_child).cls ≠ "java/lang/invoke/VarHandle" ∧ (parseMethodDescriptor (jyn iX11_child).desc).map (fun d => d.parameters.length) = some 4 := ⟨by decide +kernel, by decide +kernel, by decide +kernel⟩
theorem wcX11_move : Cond.code (jyn iX11_move) (jyc iX11_move) (jyl iX11_move) (jyr iX11_move) ∈ jTbl := jinT8 (List.mem_of_getElem? (i := 218) rfl) rfl
theorem wiX11_move : Cond.instanceMethod (jyn iX11_move) ∈ jTbl := jinT8 (List.mem_of_getElem? (i := 216) rfl) rfl
theorem wlX11_move : Cond.selects (jyn iX11_move).cls (jyn iX11_move) (jyn iX11_move) ∈ jTbl := jinT8 (List.mem_of_getElem? (i := 217) rfl) rfl
theorem wpX11_move : (jyn iX11_move).cls ≠ "java/lang/invoke/MethodHandle" ∧ (jyn iX11_move).cls ≠ "java/lang/invoke/VarHandle" ∧ (parseMethodDescriptor (jyn iX11_move).desc).map (fun d => d.parameters.length) = some 4 := ⟨by decide +kernel, by decide +kernel, by decide +kernel⟩
theorem wcX11_shut : Cond.code (jyn iX11_shut) (jyc iX11_shut) (jyl iX11_shut) (jyr iX11_shut) ∈ jTbl := jinT8 (List.mem_of_getElem? (i := 226) rfl) rfl
theorem wiX11_shut : Cond.instanceMethod (jyn iX11_shut) ∈ jTbl := jinT8 (List.mem_of_getElem? (i := 224) rfl) rfl
theorem wlX11_shut : Cond.selects (jyn iX11_shut).cls (jyn iX11_shut) (jyn iX11_shut) ∈ jTbl := jinT8 (List.mem_of_getElem? (i := 225) rfl) rfl
theorem wpX11_shut : (jyn iX11_shut).cls ≠ "java/lang/invoke/MethodHandle" ∧ (jyn iX11_shut).cls ≠ "java/lang/invoke/VarHandle" ∧ (parseMethodDescriptor (jyn iX11_shut).desc).map (fun d => d.parameters.length) = some 3 := ⟨by decide +kernel, by decide +kernel, by decide +kernel⟩
theorem wcX11_part : Cond.code (jyn iX11_part) (jyc iX11_part) (jyl iX11_part) (jyr iX11_part) ∈ jTbl := jinT8 (List.mem_of_getElem? (i := 230) rfl) rfl
theorem wiX11_part : Cond.instanceMethod (jyn iX11_part) ∈ jTbl := jinT8 (List.mem_of_getElem? (i := 228) rfl) rfl
theorem wlX11_part : Cond.selects (jyn iX11_part).cls (jyn iX11_part) (jyn iX11_part) ∈ jTbl := jinT8 (List.mem_of_getElem? (i := 229) rfl) rfl
theorem wpX11_part : (jyn iX11_part).cls ≠ "java/lang/invoke/MethodHandle" ∧ (jyn iX11_part).cls ≠ "java/lang/invoke/VarHandle" ∧ (parseMethodDescriptor (jyn iX11_part).desc).map (fun d => d.parameters.length) = some 2 := ⟨by decide +kernel, by decide +kernel, by decide +kernel⟩
theorem wcX11_tap : Cond.code (jyn iX11_tap) (jyc iX11_tap) (jyl iX11_tap) (jyr iX11_tap) ∈ jTbl := jinT8 (List.mem_of_getElem? (i := 234) rfl) rfl
theorem wiX11_tap : Cond.instanceMethod (jyn iX11_tap) ∈ jTbl := jinT8 (List.mem_of_getElem? (i := 232) rfl) rfl
theorem wlX11_tap : Cond.selects (jyn iX11_tap).cls (jyn iX11_tap) (jyn iX11_tap) ∈ jTbl := jinT8 (List.mem_of_getElem? (i := 233) rfl) rfl
theorem wpX11_tap : (jyn iX11_tap).cls ≠ "java/lang/invoke/MethodHandle" ∧ (jyn iX11_tap).cls ≠ "java/lang/invoke/VarHandle" ∧ (parseMethodDescriptor (jyn iX11_tap).desc).map (fun d => d.parameters.length) = some 4 := ⟨by decide +kernel, by decide +kernel, by decide +kernel⟩
theorem wcX11_annul : Cond.code (jyn iX11_annul) (jyc iX11_annul) (jyl iX11_annul) (jyr iX11_annul) ∈ jTbl := jinT8 (List.mem_of_getElem? (i := 238) rfl) rfl
theorem wiX11_annul : Cond.instanceMethod (jyn iX11_annul) ∈ jTbl := jinT8 (List.mem_of_getElem? (i := 236) rfl) rfl
theorem wlX11_annul : Cond.selects (jyn iX11_annul).cls (jyn iX11_annul) (jyn iX11_annul) ∈ jTbl := jinT8 (List.mem_of_getElem? (i := 237) rfl) rfl
theorem wpX11_annul : (jyn iX11_annul).cls ≠ "java/lang/invoke/MethodHandle" ∧ (jyn iX11_annul).cls ≠ "java/lang/invoke/VarHandle" ∧ (parseMethodDescriptor (jyn iX11_annul).desc).map (fun d => d.parameters.length) = some 1 := ⟨by decide +kernel, by decide +kernel, by decide +kernel⟩
theorem wcX11_isKnown : Cond.code (jyn iX11_isKnown) (jyc iX11_isKnown) (jyl iX11_isKnown) (jyr iX11_isKnown) ∈ jTbl := jinT9 (List.mem_of_getElem? (i := 10) rfl) rfl
theorem wiX11_isKnown : Cond.instanceMethod (jyn iX11_isKnown) ∈ jTbl := jinT9 (List.mem_of_getElem? (i := 9) rfl) rfl
theorem wlX11_isKnown : Cond.selects (jyn iX11_isKnown).cls (jyn iX11_isKnown) (jyn iX11_isKnown) ∈ jTbl := jinS7 (x := (⟨"SchoolRidesModel", "isKnown", "(I)Z"⟩, 105)) 12 rfl
theorem wpX11_isKnown : (jyn iX11_isKnown).cls ≠ "java/lang/invoke/MethodHandle" ∧ (jyn iX11_isKnown).cls ≠ "java/lang/invoke/VarHandle" ∧ (parseMethodDescriptor (jyn iX11_isKnown).desc).map (fun d => d.parameters.length) = some 1 := ⟨by decide +kernel, by decide +kernel, by decide +kernel⟩
theorem wcX11_isLive : Cond.code (jyn iX11_isLive) (jyc iX11_isLive) (jyl iX11_isLive) (jyr iX11_isLive) ∈ jTbl := jinT9 (List.mem_of_getElem? (i := 26) rfl) rfl
theorem wiX11_isLive : Cond.instanceMethod (jyn iX11_isLive) ∈ jTbl := jinT9 (List.mem_of_getElem? (i := 25) rfl) rfl
theorem wlX11_isLive : Cond.selects (jyn iX11_isLive).cls (jyn iX11_isLive) (jyn iX11_isLive) ∈ jTbl := jinS8 (x := (⟨"SchoolRidesModel", "isLive", "(II)Z"⟩, 105)) 0 rfl
theorem wpX11_isLive : (jyn iX11_isLive).cls ≠ "java/lang/invoke/MethodHandle" ∧ (jyn iX11_isLive).cls ≠ "java/lang/invoke/VarHandle" ∧ (parseMethodDescriptor (jyn iX11_isLive).desc).map (fun d => d.parameters.length) = some 2 := ⟨by decide +kernel, by decide +kernel, by decide +kernel⟩
theorem wcX11_force : Cond.code (jyn iX11_force) (jyc iX11_force) (jyl iX11_force) (jyr iX11_force) ∈ jTbl := jinT9 (List.mem_of_getElem? (i := 2) rfl) rfl
theorem wiX11_force : Cond.instanceMethod (jyn iX11_force) ∈ jTbl := jinT9 (List.mem_of_getElem? (i := 0) rfl) rfl
theorem wlX11_force : Cond.selects (jyn iX11_force).cls (jyn iX11_force) (jyn iX11_force) ∈ jTbl := jinT9 (List.mem_of_getElem? (i := 1) rfl) rfl
theorem wpX11_force : (jyn iX11_force).cls ≠ "java/lang/invoke/MethodHandle" ∧ (jyn iX11_force).cls ≠ "java/lang/invoke/VarHandle" ∧ (parseMethodDescriptor (jyn iX11_force).desc).map (fun d => d.parameters.length) = some 1 := ⟨by decide +kernel, by decide +kernel, by decide +kernel⟩
theorem wcX11_isKnownChild : Cond.code (jyn iX11_isKnownChild) (jyc iX11_isKnownChild) (jyl iX11_isKnownChild) (jyr iX11_isKnownChild) ∈ jTbl := jinT9 (List.mem_of_getElem? (i := 14) rfl) rfl
theorem wiX11_isKnownChild : Cond.instanceMethod (jyn iX11_isKnownChild) ∈ jTbl := jinT9 (List.mem_of_getElem? (i := 13) rfl) rfl
theorem wlX11_isKnownChild : Cond.selects (jyn iX11_isKnownChild).cls (jyn iX11_isKnownChild) (jyn iX11_isKnownChild) ∈ jTbl := jinS7 (x := (⟨"SchoolRidesModel", "isKnownChild", "(II)Z"⟩, 105)) 13 rfl
theorem wpX11_isKnownChild : (jyn iX11_isKnownChild).cls ≠ "java/lang/invoke/MethodHandle" ∧ (jyn iX11_isKnownChild).cls ≠ "java/lang/invoke/VarHandle" ∧ (parseMethodDescriptor (jyn iX11_isKnownChild).desc).map (fun d => d.parameters.length) = some 2 := ⟨by decide +kernel, by decide +kernel, by decide +kernel⟩
theorem wcX11_homeOf : Cond.code (jyn iX11_homeOf) (jyc iX11_homeOf) (jyl iX11_homeOf) (jyr iX11_homeOf) ∈ jTbl := jinT9 (List.mem_of_getElem? (i := 18) rfl) rfl
theorem wiX11_homeOf : Cond.instanceMethod (jyn iX11_homeOf) ∈ jTbl := jinT9 (List.mem_of_getElem? (i := 17) rfl) rfl
theorem wlX11_homeOf : Cond.selects (jyn iX11_homeOf).cls (jyn iX11_homeOf) (jyn iX11_homeOf) ∈ jTbl := jinS7 (x := (⟨"SchoolRidesModel", "homeOf", "(III)I"⟩, 105)) 14 rfl
theorem wpX11_homeOf : (jyn iX11_homeOf).cls ≠ "java/lang/invoke/MethodHandle" ∧ (jyn iX11_homeOf).cls ≠ "java/lang/invoke/VarHandle" ∧ (parseMethodDescriptor (jyn iX11_homeOf).desc).map (fun d => d.parameters.length) = some 3 := ⟨by decide +kernel, by decide +kernel, by decide +kernel⟩
theorem wcX11_lastHome : Cond.code (jyn iX11_lastHome) (jyc iX11_lastHome) (jyl iX11_lastHome) (jyr iX11_lastHome) ∈ jTbl := jinT9 (List.mem_of_getElem? (i := 22) rfl) rfl
theorem wiX11_lastHome : Cond.instanceMethod (jyn iX11_lastHome) ∈ jTbl := jinT9 (List.mem_of_getElem? (i := 21) rfl) rfl
theorem wlX11_lastHome : Cond.selects (jyn iX11_lastHome).cls (jyn iX11_lastHome) (jyn iX11_lastHome) ∈ jTbl := jinS7 (x := (⟨"SchoolRidesModel", "lastHome", "(IIII)I"⟩, 105)) 15 rfl
theorem wpX11_lastHome : (jyn iX11_lastHome).cls ≠ "java/lang/invoke/MethodHandle" ∧ (jyn iX11_lastHome).cls ≠ "java/lang/invoke/VarHandle" ∧ (parseMethodDescriptor (jyn iX11_lastHome).desc).map (fun d => d.parameters.length) = some 4 := ⟨by decide +kernel, by decide +kernel, by decide +kernel⟩
theorem wcX11_home : Cond.code (jyn iX11_home) (jyc iX11_home) (jyl iX11_home) (jyr iX11_home) ∈ jTbl := jinT9 (List.mem_of_getElem? (i := 6) rfl) rfl
theorem wiX11_home : Cond.instanceMethod (jyn iX11_home) ∈ jTbl := jinT9 (List.mem_of_getElem? (i := 4) rfl) rfl
theorem wlX11_home : Cond.selects (jyn iX11_home).cls (jyn iX11_home) (jyn iX11_home) ∈ jTbl := jinT9 (List.mem_of_getElem? (i := 5) rfl) rfl
theorem wpX11_home : (jyn iX11_home).cls ≠ "java/lang/invoke/MethodHandle" ∧ (jyn iX11_home).cls ≠ "java/lang/invoke/VarHandle" ∧ (parseMethodDescriptor (jyn iX11_home).desc).map (fun d => d.parameters.length) = some 3 := ⟨by decide +kernel, by decide +kernel, by decide +kernel⟩
theorem wcX11_weightOf : Cond.code (jyn iX11_weightOf) (jyc iX11_weightOf) (jyl iX11_weightOf) (jyr iX11_weightOf) ∈ jTbl := jinT9 (List.mem_of_getElem? (i := 51) rfl) rfl
theorem wiX11_weightOf : Cond.instanceMethod (jyn iX11_weightOf) ∈ jTbl := jinT9 (List.mem_of_getElem? (i := 50) rfl) rfl
theorem wlX11_weightOf : Cond.selects (jyn iX11_weightOf).cls (jyn iX11_weightOf) (jyn iX11_weightOf) ∈ jTbl := jinS8 (x := (⟨"SchoolRidesModel", "weightOf", "(II)I"⟩, 105)) 5 rfl
theorem wpX11_weightOf : (jyn iX11_weightOf).cls ≠ "java/lang/invoke/MethodHandle" ∧ (jyn iX11_weightOf).cls ≠ "java/lang/invoke/VarHandle" ∧ (parseMethodDescriptor (jyn iX11_weightOf).desc).map (fun d => d.parameters.length) = some 2 := ⟨by decide +kernel, by decide +kernel, by decide +kernel⟩
theorem wcX11_isOpen : Cond.code (jyn iX11_isOpen) (jyc iX11_isOpen) (jyl iX11_isOpen) (jyr iX11_isOpen) ∈ jTbl := jinT9 (List.mem_of_getElem? (i := 47) rfl) rfl
theorem wiX11_isOpen : Cond.instanceMethod (jyn iX11_isOpen) ∈ jTbl := jinT9 (List.mem_of_getElem? (i := 46) rfl) rfl
theorem wlX11_isOpen : Cond.selects (jyn iX11_isOpen).cls (jyn iX11_isOpen) (jyn iX11_isOpen) ∈ jTbl := jinS8 (x := (⟨"SchoolRidesModel", "isOpen", "(II)Z"⟩, 105)) 4 rfl
theorem wpX11_isOpen : (jyn iX11_isOpen).cls ≠ "java/lang/invoke/MethodHandle" ∧ (jyn iX11_isOpen).cls ≠ "java/lang/invoke/VarHandle" ∧ (parseMethodDescriptor (jyn iX11_isOpen).desc).map (fun d => d.parameters.length) = some 2 := ⟨by decide +kernel, by decide +kernel, by decide +kernel⟩
theorem wcX11_lay : Cond.code (jyn iX11_lay) (jyc iX11_lay) (jyl iX11_lay) (jyr iX11_lay) ∈ jTbl := jinT9 (List.mem_of_getElem? (i := 43) rfl) rfl
theorem wiX11_lay : Cond.instanceMethod (jyn iX11_lay) ∈ jTbl := jinT9 (List.mem_of_getElem? (i := 42) rfl) rfl
theorem wlX11_lay : Cond.selects (jyn iX11_lay).cls (jyn iX11_lay) (jyn iX11_lay) ∈ jTbl := jinS8 (x := (⟨"SchoolRidesModel", "lay", "(II)V"⟩, 105)) 3 rfl
theorem wpX11_lay : (jyn iX11_lay).cls ≠ "java/lang/invoke/MethodHandle" ∧ (jyn iX11_lay).cls ≠ "java/lang/invoke/VarHandle" ∧ (parseMethodDescriptor (jyn iX11_lay).desc).map (fun d => d.parameters.length) = some 2 := ⟨by decide +kernel, by decide +kernel, by decide +kernel⟩
theorem wcX11_join : Cond.code (jyn iX11_join) (jyc iX11_join) (jyl iX11_join) (jyr iX11_join) ∈ jTbl := jinT9 (List.mem_of_getElem? (i := 55) rfl) rfl
theorem wiX11_join : Cond.instanceMethod (jyn iX11_join) ∈ jTbl := jinT9 (List.mem_of_getElem? (i := 54) rfl) rfl
theorem wlX11_join : Cond.selects (jyn iX11_join).cls (jyn iX11_join) (jyn iX11_join) ∈ jTbl := jinS8 (x := (⟨"SchoolRidesModel", "join", "(IIII)V"⟩, 105)) 6 rfl
theorem wpX11_join : (jyn iX11_join).cls ≠ "java/lang/invoke/MethodHandle" ∧ (jyn iX11_join).cls ≠ "java/lang/invoke/VarHandle" ∧ (parseMethodDescriptor (jyn iX11_join).desc).map (fun d => d.parameters.length) = some 4 := ⟨by decide +kernel, by decide +kernel, by decide +kernel⟩
theorem wcX11_isDay : Cond.code (jyn iX11_isDay) (jyc iX11_isDay) (jyl iX11_isDay) (jyr iX11_isDay) ∈ jTbl := jinT9 (List.mem_of_getElem? (i := 38) rfl) rfl
theorem wiX11_isDay : Cond.instanceMethod (jyn iX11_isDay) ∈ jTbl := jinT9 (List.mem_of_getElem? (i := 37) rfl) rfl
theorem wlX11_isDay : Cond.selects (jyn iX11_isDay).cls (jyn iX11_isDay) (jyn iX11_isDay) ∈ jTbl := jinS8 (x := (⟨"SchoolRidesModel", "isDay", "(II)Z"⟩, 105)) 2 rfl
theorem wpX11_isDay : (jyn iX11_isDay).cls ≠ "java/lang/invoke/MethodHandle" ∧ (jyn iX11_isDay).cls ≠ "java/lang/invoke/VarHandle" ∧ (parseMethodDescriptor (jyn iX11_isDay).desc).map (fun d => d.parameters.length) = some 2 := ⟨by decide +kernel, by decide +kernel, by decide +kernel⟩
theorem wcX11_isDist : Cond.code (jyn iX11_isDist) (jyc iX11_isDist) (jyl iX11_isDist) (jyr iX11_isDist) ∈ jTbl := jinT9 (List.mem_of_getElem? (i := 34) rfl) rfl
theorem wiX11_isDist : Cond.instanceMethod (jyn iX11_isDist) ∈ jTbl := jinT9 (List.mem_of_getElem? (i := 33) rfl) rfl
theorem wlX11_isDist : Cond.selects (jyn iX11_isDist).cls (jyn iX11_isDist) (jyn iX11_isDist) ∈ jTbl := jinS8 (x := (⟨"SchoolRidesModel", "isDist", "(IIIII)Z"⟩, 105)) 1 rfl
theorem wpX11_isDist : (jyn iX11_isDist).cls ≠ "java/lang/invoke/MethodHandle" ∧ (jyn iX11_isDist).cls ≠ "java/lang/invoke/VarHandle" ∧ (parseMethodDescriptor (jyn iX11_isDist).desc).map (fun d => d.parameters.length) = some 5 := ⟨by decide +kernel, by decide +kernel, by decide +kernel⟩
theorem wcX11_leastOf : Cond.code (jyn iX11_leastOf) (jyc iX11_leastOf) (jyl iX11_leastOf) (jyr iX11_leastOf) ∈ jTbl := jinT9 (List.mem_of_getElem? (i := 59) rfl) rfl
theorem wiX11_leastOf : Cond.instanceMethod (jyn iX11_leastOf) ∈ jTbl := jinT9 (List.mem_of_getElem? (i := 58) rfl) rfl
theorem wlX11_leastOf : Cond.selects (jyn iX11_leastOf).cls (jyn iX11_leastOf) (jyn iX11_leastOf) ∈ jTbl := jinS8 (x := (⟨"SchoolRidesModel", "leastOf", "(III)I"⟩, 105)) 7 rfl
theorem wpX11_leastOf : (jyn iX11_leastOf).cls ≠ "java/lang/invoke/MethodHandle" ∧ (jyn iX11_leastOf).cls ≠ "java/lang/invoke/VarHandle" ∧ (parseMethodDescriptor (jyn iX11_leastOf).desc).map (fun d => d.parameters.length) = some 3 := ⟨by decide +kernel, by decide +kernel, by decide +kernel⟩
theorem wcX11_dist : Cond.code (jyn iX11_dist) (jyc iX11_dist) (jyl iX11_dist) (jyr iX11_dist) ∈ jTbl := jinT9 (List.mem_of_getElem? (i := 30) rfl) rfl
theorem wiX11_dist : Cond.instanceMethod (jyn iX11_dist) ∈ jTbl := jinT9 (List.mem_of_getElem? (i := 28) rfl) rfl
theorem wlX11_dist : Cond.selects (jyn iX11_dist).cls (jyn iX11_dist) (jyn iX11_dist) ∈ jTbl := jinT9 (List.mem_of_getElem? (i := 29) rfl) rfl
theorem wpX11_dist : (jyn iX11_dist).cls ≠ "java/lang/invoke/MethodHandle" ∧ (jyn iX11_dist).cls ≠ "java/lang/invoke/VarHandle" ∧ (parseMethodDescriptor (jyn iX11_dist).desc).map (fun d => d.parameters.length) = some 5 := ⟨by decide +kernel, by decide +kernel, by decide +kernel⟩
theorem wcX11_onward : Cond.code (jyn iX11_onward) (jyc iX11_onward) (jyl iX11_onward) (jyr iX11_onward) ∈ jTbl := jinT9 (List.mem_of_getElem? (i := 67) rfl) rfl
theorem wiX11_onward : Cond.instanceMethod (jyn iX11_onward) ∈ jTbl := jinT9 (List.mem_of_getElem? (i := 66) rfl) rfl
theorem wlX11_onward : Cond.selects (jyn iX11_onward).cls (jyn iX11_onward) (jyn iX11_onward) ∈ jTbl := jinS8 (x := (⟨"SchoolRidesModel", "onward", "(III)I"⟩, 105)) 8 rfl
theorem wpX11_onward : (jyn iX11_onward).cls ≠ "java/lang/invoke/MethodHandle" ∧ (jyn iX11_onward).cls ≠ "java/lang/invoke/VarHandle" ∧ (parseMethodDescriptor (jyn iX11_onward).desc).map (fun d => d.parameters.length) = some 3 := ⟨by decide +kernel, by decide +kernel, by decide +kernel⟩
theorem wcX11_row : Cond.code (jyn iX11_row) (jyc iX11_row) (jyl iX11_row) (jyr iX11_row) ∈ jTbl := jinT9 (List.mem_of_getElem? (i := 63) rfl) rfl
theorem wiX11_row : Cond.instanceMethod (jyn iX11_row) ∈ jTbl := jinT9 (List.mem_of_getElem? (i := 61) rfl) rfl
theorem wlX11_row : Cond.selects (jyn iX11_row).cls (jyn iX11_row) (jyn iX11_row) ∈ jTbl := jinT9 (List.mem_of_getElem? (i := 62) rfl) rfl
theorem wpX11_row : (jyn iX11_row).cls ≠ "java/lang/invoke/MethodHandle" ∧ (jyn iX11_row).cls ≠ "java/lang/invoke/VarHandle" ∧ (parseMethodDescriptor (jyn iX11_row).desc).map (fun d => d.parameters.length) = some 6 := ⟨by decide +kernel, by decide +kernel, by decide +kernel⟩
theorem wcX11_sum : Cond.code (jyn iX11_sum) (jyc iX11_sum) (jyl iX11_sum) (jyr iX11_sum) ∈ jTbl := jinT9 (List.mem_of_getElem? (i := 87) rfl) rfl
theorem wiX11_sum : Cond.instanceMethod (jyn iX11_sum) ∈ jTbl := jinT9 (List.mem_of_getElem? (i := 86) rfl) rfl
theorem wlX11_sum : Cond.selects (jyn iX11_sum).cls (jyn iX11_sum) (jyn iX11_sum) ∈ jTbl := jinS8 (x := (⟨"SchoolRidesModel", "sum", "(II)I"⟩, 105)) 12 rfl
theorem wpX11_sum : (jyn iX11_sum).cls ≠ "java/lang/invoke/MethodHandle" ∧ (jyn iX11_sum).cls ≠ "java/lang/invoke/VarHandle" ∧ (parseMethodDescriptor (jyn iX11_sum).desc).map (fun d => d.parameters.length) = some 2 := ⟨by decide +kernel, by decide +kernel, by decide +kernel⟩
theorem wcX11_isLit : Cond.code (jyn iX11_isLit) (jyc iX11_isLit) (jyl iX11_isLit) (jyr iX11_isLit) ∈ jTbl := jinT9 (List.mem_of_getElem? (i := 83) rfl) rfl
theorem wiX11_isLit : Cond.instanceMethod (jyn iX11_isLit) ∈ jTbl := jinT9 (List.mem_of_getElem? (i := 82) rfl) rfl
theorem wlX11_isLit : Cond.selects (jyn iX11_isLit).cls (jyn iX11_isLit) (jyn iX11_isLit) ∈ jTbl := jinS8 (x := (⟨"SchoolRidesModel", "isLit", "(I)Z"⟩, 105)) 11 rfl
theorem wpX11_isLit : (jyn iX11_isLit).cls ≠ "java/lang/invoke/MethodHandle" ∧ (jyn iX11_isLit).cls ≠ "java/lang/invoke/VarHandle" ∧ (parseMethodDescriptor (jyn iX11_isLit).desc).map (fun d => d.parameters.length) = some 1 := ⟨by decide +kernel, by decide +kernel, by decide +kernel⟩
theorem wcX11_isHeld : Cond.code (jyn iX11_isHeld) (jyc iX11_isHeld) (jyl iX11_isHeld) (jyr iX11_isHeld) ∈ jTbl := jinT9 (List.mem_of_getElem? (i := 79) rfl) rfl
theorem wiX11_isHeld : Cond.instanceMethod (jyn iX11_isHeld) ∈ jTbl := jinT9 (List.mem_of_getElem? (i := 78) rfl) rfl
theorem wlX11_isHeld : Cond.selects (jyn iX11_isHeld).cls (jyn iX11_isHeld) (jyn iX11_isHeld) ∈ jTbl := jinS8 (x := (⟨"SchoolRidesModel", "isHeld", "(II)Z"⟩, 105)) 10 rfl
theorem wpX11_isHeld : (jyn iX11_isHeld).cls ≠ "java/lang/invoke/MethodHandle" ∧ (jyn iX11_isHeld).cls ≠ "java/lang/invoke/VarHandle" ∧ (parseMethodDescriptor (jyn iX11_isHeld).desc).map (fun d => d.parameters.length) = some 2 := ⟨by decide +kernel, by decide +kernel, by decide +kernel⟩
theorem wcX11_rightOf : Cond.code (jyn iX11_rightOf) (jyc iX11_rightOf) (jyl iX11_rightOf) (jyr iX11_rightOf) ∈ jTbl := jinT9 (List.mem_of_getElem? (i := 75) rfl) rfl
theorem wiX11_rightOf : Cond.instanceMethod (jyn iX11_rightOf) ∈ jTbl := jinT9 (List.mem_of_getElem? (i := 74) rfl) rfl
theorem wlX11_rightOf : Cond.selects (jyn iX11_rightOf).cls (jyn iX11_rightOf) (jyn iX11_rightOf) ∈ jTbl := jinS8 (x := (⟨"SchoolRidesModel", "rightOf", "(III)I"⟩, 105)) 9 rfl
theorem wpX11_rightOf : (jyn iX11_rightOf).cls ≠ "java/lang/invoke/MethodHandle" ∧ (jyn iX11_rightOf).cls ≠ "java/lang/invoke/VarHandle" ∧ (parseMethodDescriptor (jyn iX11_rightOf).desc).map (fun d => d.parameters.length) = some 3 := ⟨by decide +kernel, by decide +kernel, by decide +kernel⟩
theorem wcX11_right : Cond.code (jyn iX11_right) (jyc iX11_right) (jyl iX11_right) (jyr iX11_right) ∈ jTbl := jinT9 (List.mem_of_getElem? (i := 71) rfl) rfl
theorem wiX11_right : Cond.instanceMethod (jyn iX11_right) ∈ jTbl := jinT9 (List.mem_of_getElem? (i := 69) rfl) rfl
theorem wlX11_right : Cond.selects (jyn iX11_right).cls (jyn iX11_right) (jyn iX11_right) ∈ jTbl := jinT9 (List.mem_of_getElem? (i := 70) rfl) rfl
theorem wpX11_right : (jyn iX11_right).cls ≠ "java/lang/invoke/MethodHandle" ∧ (jyn iX11_right).cls ≠ "java/lang/invoke/VarHandle" ∧ (parseMethodDescriptor (jyn iX11_right).desc).map (fun d => d.parameters.length) = some 3 := ⟨by decide +kernel, by decide +kernel, by decide +kernel⟩
theorem wcX11_altered : Cond.code (jyn iX11_altered) (jyc iX11_altered) (jyl iX11_altered) (jyr iX11_altered) ∈ jTbl := jinT9 (List.mem_of_getElem? (i := 91) rfl) rfl
theorem wiX11_altered : Cond.instanceMethod (jyn iX11_altered) ∈ jTbl := jinT9 (List.mem_of_getElem? (i := 89) rfl) rfl
theorem wlX11_altered : Cond.selects (jyn iX11_altered).cls (jyn iX11_altered) (jyn iX11_altered) ∈ jTbl := jinT9 (List.mem_of_getElem? (i := 90) rfl) rfl
theorem wpX11_altered : (jyn iX11_altered).cls ≠ "java/lang/invoke/MethodHandle" ∧ (jyn iX11_altered).cls ≠ "java/lang/invoke/VarHandle" ∧ (parseMethodDescriptor (jyn iX11_altered).desc).map (fun d => d.parameters.length) = some 3 := ⟨by decide +kernel, by decide +kernel, by decide +kernel⟩
theorem wcX11_stopOf : Cond.code (jyn iX11_stopOf) (jyc iX11_stopOf) (jyl iX11_stopOf) (jyr iX11_stopOf) ∈ jTbl := jinT9 (List.mem_of_getElem? (i := 99) rfl) rfl
theorem wiX11_stopOf : Cond.instanceMethod (jyn iX11_stopOf) ∈ jTbl := jinT9 (List.mem_of_getElem? (i := 98) rfl) rfl
theorem wlX11_stopOf : Cond.selects (jyn iX11_stopOf).cls (jyn iX11_stopOf) (jyn iX11_stopOf) ∈ jTbl := jinS8 (x := (⟨"SchoolRidesModel", "stopOf", "(III)I"⟩, 105)) 13 rfl
theorem wpX11_stopOf : (jyn iX11_stopOf).cls ≠ "java/lang/invoke/MethodHandle" ∧ (jyn iX11_stopOf).cls ≠ "java/lang/invoke/VarHandle" ∧ (parseMethodDescriptor (jyn iX11_stopOf).desc).map (fun d => d.parameters.length) = some 3 := ⟨by decide +kernel, by decide +kernel, by decide +kernel⟩
theorem wcX11_stop : Cond.code (jyn iX11_stop) (jyc iX11_stop) (jyl iX11_stop) (jyr iX11_stop) ∈ jTbl := jinT9 (List.mem_of_getElem? (i := 95) rfl) rfl
theorem wiX11_stop : Cond.instanceMethod (jyn iX11_stop) ∈ jTbl := jinT9 (List.mem_of_getElem? (i := 93) rfl) rfl
theorem wlX11_stop : Cond.selects (jyn iX11_stop).cls (jyn iX11_stop) (jyn iX11_stop) ∈ jTbl := jinT9 (List.mem_of_getElem? (i := 94) rfl) rfl
theorem wpX11_stop : (jyn iX11_stop).cls ≠ "java/lang/invoke/MethodHandle" ∧ (jyn iX11_stop).cls ≠ "java/lang/invoke/VarHandle" ∧ (parseMethodDescriptor (jyn iX11_stop).desc).map (fun d => d.parameters.length) = some 3 := ⟨by decide +kernel, by decide +kernel, by decide +kernel⟩
theorem wcX11_riders : Cond.code (jyn iX11_riders) (jyc iX11_riders) (jyl iX11_riders) (jyr iX11_riders) ∈ jTbl := jinT9 (List.mem_of_getElem? (i := 111) rfl) rfl
theorem wiX11_riders : Cond.instanceMethod (jyn iX11_riders) ∈ jTbl := jinT9 (List.mem_of_getElem? (i := 110) rfl) rfl
theorem wlX11_riders : Cond.selects (jyn iX11_riders).cls (jyn iX11_riders) (jyn iX11_riders) ∈ jTbl := jinS8 (x := (⟨"SchoolRidesModel", "riders", "(III)V"⟩, 105)) 15 rfl
theorem wpX11_riders : (jyn iX11_riders).cls ≠ "java/lang/invoke/MethodHandle" ∧ (jyn iX11_riders).cls ≠ "java/lang/invoke/VarHandle" ∧ (parseMethodDescriptor (jyn iX11_riders).desc).map (fun d => d.parameters.length) = some 3 := ⟨by decide +kernel, by decide +kernel, by decide +kernel⟩
theorem wcX11_isSchool : Cond.code (jyn iX11_isSchool) (jyc iX11_isSchool) (jyl iX11_isSchool) (jyr iX11_isSchool) ∈ jTbl := jinT9 (List.mem_of_getElem? (i := 107) rfl) rfl
theorem wiX11_isSchool : Cond.instanceMethod (jyn iX11_isSchool) ∈ jTbl := jinT9 (List.mem_of_getElem? (i := 106) rfl) rfl
theorem wlX11_isSchool : Cond.selects (jyn iX11_isSchool).cls (jyn iX11_isSchool) (jyn iX11_isSchool) ∈ jTbl := jinS8 (x := (⟨"SchoolRidesModel", "isSchool", "(III)Z"⟩, 105)) 14 rfl
theorem wpX11_isSchool : (jyn iX11_isSchool).cls ≠ "java/lang/invoke/MethodHandle" ∧ (jyn iX11_isSchool).cls ≠ "java/lang/invoke/VarHandle" ∧ (parseMethodDescriptor (jyn iX11_isSchool).desc).map (fun d => d.parameters.length) = some 3 := ⟨by decide +kernel, by decide +kernel, by decide +kernel⟩
theorem wcX11_load : Cond.code (jyn iX11_load) (jyc iX11_load) (jyl iX11_load) (jyr iX11_load) ∈ jTbl := jinT9 (List.mem_of_getElem? (i := 103) rfl) rfl
theorem wiX11_load : Cond.instanceMethod (jyn iX11_load) ∈ jTbl := jinT9 (List.mem_of_getElem? (i := 101) rfl) rfl
theorem wlX11_load : Cond.selects (jyn iX11_load).cls (jyn iX11_load) (jyn iX11_load) ∈ jTbl := jinT9 (List.mem_of_getElem? (i := 102) rfl) rfl
theorem wpX11_load : (jyn iX11_load).cls ≠ "java/lang/invoke/MethodHandle" ∧ (jyn iX11_load).cls ≠ "java/lang/invoke/VarHandle" ∧ (parseMethodDescriptor (jyn iX11_load).desc).map (fun d => d.parameters.length) = some 4 := ⟨by decide +kernel, by decide +kernel, by decide +kernel⟩
theorem wcX11_placeOfStop : Cond.code (jyn iX11_placeOfStop) (jyc iX11_placeOfStop) (jyl iX11_placeOfStop) (jyr iX11_placeOfStop) ∈ jTbl := jinT9 (List.mem_of_getElem? (i := 131) rfl) rfl
theorem wiX11_placeOfStop : Cond.instanceMethod (jyn iX11_placeOfStop) ∈ jTbl := jinT9 (List.mem_of_getElem? (i := 130) rfl) rfl
theorem wlX11_placeOfStop : Cond.selects (jyn iX11_placeOfStop).cls (jyn iX11_placeOfStop) (jyn iX11_placeOfStop) ∈ jTbl := jinS9 (x := (⟨"SchoolRidesModel", "placeOfStop", "(I)I"⟩, 105)) 3 rfl
theorem wpX11_placeOfStop : (jyn iX11_placeOfStop).cls ≠ "java/lang/invoke/MethodHandle" ∧ (jyn iX11_placeOfStop).cls ≠ "java/lang/invoke/VarHandle" ∧ (parseMethodDescriptor (jyn iX11_placeOfStop).desc).map (fun d => d.parameters.length) = some 1 := ⟨by decide +kernel, by decide +kernel, by decide +kernel⟩
theorem wcX11_placeOfSchool : Cond.code (jyn iX11_placeOfSchool) (jyc iX11_placeOfSchool) (jyl iX11_placeOfSchool) (jyr iX11_placeOfSchool) ∈ jTbl := jinT9 (List.mem_of_getElem? (i := 135) rfl) rfl
theorem wiX11_placeOfSchool : Cond.instanceMethod (jyn iX11_placeOfSchool) ∈ jTbl := jinT9 (List.mem_of_getElem? (i := 134) rfl) rfl
theorem wlX11_placeOfSchool : Cond.selects (jyn iX11_placeOfSchool).cls (jyn iX11_placeOfSchool) (jyn iX11_placeOfSchool) ∈ jTbl := jinS9 (x := (⟨"SchoolRidesModel", "placeOfSchool", "(I)I"⟩, 105)) 4 rfl
theorem wpX11_placeOfSchool : (jyn iX11_placeOfSchool).cls ≠ "java/lang/invoke/MethodHandle" ∧ (jyn iX11_placeOfSchool).cls ≠ "java/lang/invoke/VarHandle" ∧ (parseMethodDescriptor (jyn iX11_placeOfSchool).desc).map (fun d => d.parameters.length) = some 1 := ⟨by decide +kernel, by decide +kernel, by decide +kernel⟩
theorem wcX11_driven : Cond.code (jyn iX11_driven) (jyc iX11_driven) (jyl iX11_driven) (jyr iX11_driven) ∈ jTbl := jinT9 (List.mem_of_getElem? (i := 127) rfl) rfl
theorem wiX11_driven : Cond.instanceMethod (jyn iX11_driven) ∈ jTbl := jinT9 (List.mem_of_getElem? (i := 126) rfl) rfl
theorem wlX11_driven : Cond.selects (jyn iX11_driven).cls (jyn iX11_driven) (jyn iX11_driven) ∈ jTbl := jinS9 (x := (⟨"SchoolRidesModel", "driven", "(I)I"⟩, 105)) 2 rfl
theorem wpX11_driven : (jyn iX11_driven).cls ≠ "java/lang/invoke/MethodHandle" ∧ (jyn iX11_driven).cls ≠ "java/lang/invoke/VarHandle" ∧ (parseMethodDescriptor (jyn iX11_driven).desc).map (fun d => d.parameters.length) = some 1 := ⟨by decide +kernel, by decide +kernel, by decide +kernel⟩
theorem wcX11_reorders : Cond.code (jyn iX11_reorders) (jyc iX11_reorders) (jyl iX11_reorders) (jyr iX11_reorders) ∈ jTbl := jinT9 (List.mem_of_getElem? (i := 139) rfl) rfl
theorem wiX11_reorders : Cond.instanceMethod (jyn iX11_reorders) ∈ jTbl := jinT9 (List.mem_of_getElem? (i := 138) rfl) rfl
theorem wlX11_reorders : Cond.selects (jyn iX11_reorders).cls (jyn iX11_reorders) (jyn iX11_reorders) ∈ jTbl := jinS9 (x := (⟨"SchoolRidesModel", "reorders", "(I)Z"⟩, 105)) 5 rfl
theorem wpX11_reorders : (jyn iX11_reorders).cls ≠ "java/lang/invoke/MethodHandle" ∧ (jyn iX11_reorders).cls ≠ "java/lang/invoke/VarHandle" ∧ (parseMethodDescriptor (jyn iX11_reorders).desc).map (fun d => d.parameters.length) = some 1 := ⟨by decide +kernel, by decide +kernel, by decide +kernel⟩
theorem wcX11_turn : Cond.code (jyn iX11_turn) (jyc iX11_turn) (jyl iX11_turn) (jyr iX11_turn) ∈ jTbl := jinT9 (List.mem_of_getElem? (i := 143) rfl) rfl
theorem wiX11_turn : Cond.instanceMethod (jyn iX11_turn) ∈ jTbl := jinT9 (List.mem_of_getElem? (i := 142) rfl) rfl
theorem wlX11_turn : Cond.selects (jyn iX11_turn).cls (jyn iX11_turn) (jyn iX11_turn) ∈ jTbl := jinS9 (x := (⟨"SchoolRidesModel", "turn", "(II)V"⟩, 105)) 6 rfl
theorem wpX11_turn : (jyn iX11_turn).cls ≠ "java/lang/invoke/MethodHandle" ∧ (jyn iX11_turn).cls ≠ "java/lang/invoke/VarHandle" ∧ (parseMethodDescriptor (jyn iX11_turn).desc).map (fun d => d.parameters.length) = some 2 := ⟨by decide +kernel, by decide +kernel, by decide +kernel⟩
theorem wcX11_manyOf : Cond.code (jyn iX11_manyOf) (jyc iX11_manyOf) (jyl iX11_manyOf) (jyr iX11_manyOf) ∈ jTbl := jinT9 (List.mem_of_getElem? (i := 151) rfl) rfl
theorem wtX11_manyOf : Cond.static (jyn iX11_manyOf) ∈ jTbl := jinT9 (List.mem_of_getElem? (i := 150) rfl) rfl
theorem wpX11_manyOf : (jyn iX11_manyOf).cls ≠ "java/lang/invoke/MethodHandle" ∧ (jyn iX11_manyOf).cls ≠ "java/lang/invoke/VarHandle" ∧ (parseMethodDescriptor (jyn iX11_manyOf).desc).map (fun d => d.parameters.length) = some 1 := ⟨by decide +kernel, by decide +kernel, by decide +kernel⟩
theorem wcX11_laid : Cond.code (jyn iX11_laid) (jyc iX11_laid) (jyl iX11_laid) (jyr iX11_laid) ∈ jTbl := jinT9 (List.mem_of_getElem? (i := 123) rfl) rfl
theorem wiX11_laid : Cond.instanceMethod (jyn iX11_laid) ∈ jTbl := jinT9 (List.mem_of_getElem? (i := 122) rfl) rfl
theorem wlX11_laid : Cond.selects (jyn iX11_laid).cls (jyn iX11_laid) (jyn iX11_laid) ∈ jTbl := jinS9 (x := (⟨"SchoolRidesModel", "laid", "(I)V"⟩, 105)) 1 rfl
theorem wpX11_laid : (jyn iX11_laid).cls ≠ "java/lang/invoke/MethodHandle" ∧ (jyn iX11_laid).cls ≠ "java/lang/invoke/VarHandle" ∧ (parseMethodDescriptor (jyn iX11_laid).desc).map (fun d => d.parameters.length) = some 1 := ⟨by decide +kernel, by decide +kernel, by decide +kernel⟩
theorem wcX11_judge : Cond.code (jyn iX11_judge) (jyc iX11_judge) (jyl iX11_judge) (jyr iX11_judge) ∈ jTbl := jinT9 (List.mem_of_getElem? (i := 159) rfl) rfl
theorem wiX11_judge : Cond.instanceMethod (jyn iX11_judge) ∈ jTbl := jinT9 (List.mem_of_getElem? (i := 158) rfl) rfl
theorem wlX11_judge : Cond.selects (jyn iX11_judge).cls (jyn iX11_judge) (jyn iX11_judge) ∈ jTbl := jinS9 (x := (⟨"SchoolRidesModel", "judge", "(I)V"⟩, 105)) 7 rfl
theorem wpX11_judge : (jyn iX11_judge).cls ≠ "java/lang/invoke/MethodHandle" ∧ (jyn iX11_judge).cls ≠ "java/lang/invoke/VarHandle" ∧ (parseMethodDescriptor (jyn iX11_judge).desc).map (fun d => d.parameters.length) = some 1 := ⟨by decide +kernel, by decide +kernel, by decide +kernel⟩
theorem wcX11_allRoutes : Cond.code (jyn iX11_allRoutes) (jyc iX11_allRoutes) (jyl iX11_allRoutes) (jyr iX11_allRoutes) ∈ jTbl := jinT9 (List.mem_of_getElem? (i := 171) rfl) rfl
theorem wiX11_allRoutes : Cond.instanceMethod (jyn iX11_allRoutes) ∈ jTbl := jinT9 (List.mem_of_getElem? (i := 170) rfl) rfl
theorem wlX11_allRoutes : Cond.selects (jyn iX11_allRoutes).cls (jyn iX11_allRoutes) (jyn iX11_allRoutes) ∈ jTbl := jinS9 (x := (⟨"SchoolRidesModel", "allRoutes", "(III)V"⟩, 105)) 9 rfl
theorem wpX11_allRoutes : (jyn iX11_allRoutes).cls ≠ "java/lang/invoke/MethodHandle" ∧ (jyn iX11_allRoutes).cls ≠ "java/lang/invoke/VarHandle" ∧ (parseMethodDescriptor (jyn iX11_allRoutes).desc).map (fun d => d.parameters.length) = some 3 := ⟨by decide +kernel, by decide +kernel, by decide +kernel⟩
theorem wcX11_isSet : Cond.code (jyn iX11_isSet) (jyc iX11_isSet) (jyl iX11_isSet) (jyr iX11_isSet) ∈ jTbl := jinT9 (List.mem_of_getElem? (i := 119) rfl) rfl
theorem wiX11_isSet : Cond.instanceMethod (jyn iX11_isSet) ∈ jTbl := jinT9 (List.mem_of_getElem? (i := 118) rfl) rfl
theorem wlX11_isSet : Cond.selects (jyn iX11_isSet).cls (jyn iX11_isSet) (jyn iX11_isSet) ∈ jTbl := jinS9 (x := (⟨"SchoolRidesModel", "isSet", "(IIII)Z"⟩, 105)) 0 rfl
theorem wpX11_isSet : (jyn iX11_isSet).cls ≠ "java/lang/invoke/MethodHandle" ∧ (jyn iX11_isSet).cls ≠ "java/lang/invoke/VarHandle" ∧ (parseMethodDescriptor (jyn iX11_isSet).desc).map (fun d => d.parameters.length) = some 4 := ⟨by decide +kernel, by decide +kernel, by decide +kernel⟩
theorem wcX11_route : Cond.code (jyn iX11_route) (jyc iX11_route) (jyl iX11_route) (jyr iX11_route) ∈ jTbl := jinT9 (List.mem_of_getElem? (i := 115) rfl) rfl
theorem wiX11_route : Cond.instanceMethod (jyn iX11_route) ∈ jTbl := jinT9 (List.mem_of_getElem? (i := 113) rfl) rfl
theorem wlX11_route : Cond.selects (jyn iX11_route).cls (jyn iX11_route) (jyn iX11_route) ∈ jTbl := jinT9 (List.mem_of_getElem? (i := 114) rfl) rfl
theorem wpX11_route : (jyn iX11_route).cls ≠ "java/lang/invoke/MethodHandle" ∧ (jyn iX11_route).cls ≠ "java/lang/invoke/VarHandle" ∧ (parseMethodDescriptor (jyn iX11_route).desc).map (fun d => d.parameters.length) = some 4 := ⟨by decide +kernel, by decide +kernel, by decide +kernel⟩
theorem wcX11_routeStop : Cond.code (jyn iX11_routeStop) (jyc iX11_routeStop) (jyl iX11_routeStop) (jyr iX11_routeStop) ∈ jTbl := jinT9 (List.mem_of_getElem? (i := 147) rfl) rfl
theorem wiX11_routeStop : Cond.instanceMethod (jyn iX11_routeStop) ∈ jTbl := jinT9 (List.mem_of_getElem? (i := 145) rfl) rfl
theorem wlX11_routeStop : Cond.selects (jyn iX11_routeStop).cls (jyn iX11_routeStop) (jyn iX11_routeStop) ∈ jTbl := jinT9 (List.mem_of_getElem? (i := 146) rfl) rfl
theorem wpX11_routeStop : (jyn iX11_routeStop).cls ≠ "java/lang/invoke/MethodHandle" ∧ (jyn iX11_routeStop).cls ≠ "java/lang/invoke/VarHandle" ∧ (parseMethodDescriptor (jyn iX11_routeStop).desc).map (fun d => d.parameters.length) = some 5 := ⟨by decide +kernel, by decide +kernel, by decide +kernel⟩
theorem wcX11_good : Cond.code (jyn iX11_good) (jyc iX11_good) (jyl iX11_good) (jyr iX11_good) ∈ jTbl := jinT9 (List.mem_of_getElem? (i := 155) rfl) rfl
theorem wiX11_good : Cond.instanceMethod (jyn iX11_good) ∈ jTbl := jinT9 (List.mem_of_getElem? (i := 153) rfl) rfl
theorem wlX11_good : Cond.selects (jyn iX11_good).cls (jyn iX11_good) (jyn iX11_good) ∈ jTbl := jinT9 (List.mem_of_getElem? (i := 154) rfl) rfl
theorem wpX11_good : (jyn iX11_good).cls ≠ "java/lang/invoke/MethodHandle" ∧ (jyn iX11_good).cls ≠ "java/lang/invoke/VarHandle" ∧ (parseMethodDescriptor (jyn iX11_good).desc).map (fun d => d.parameters.length) = some 4 := ⟨by decide +kernel, by decide +kernel, by decide +kernel⟩
theorem wcX11_taxi : Cond.code (jyn iX11_taxi) (jyc iX11_taxi) (jyl iX11_taxi) (jyr iX11_taxi) ∈ jTbl := jinT9 (List.mem_of_getElem? (i := 186) rfl) rfl
theorem wiX11_taxi : Cond.instanceMethod (jyn iX11_taxi) ∈ jTbl := jinT9 (List.mem_of_getElem? (i := 185) rfl) rfl
theorem wlX11_taxi : Cond.selects (jyn iX11_taxi).cls (jyn iX11_taxi) (jyn iX11_taxi) ∈ jTbl := jinS9 (x := (⟨"SchoolRidesModel", "taxi", "(I)I"⟩, 105)) 12 rfl
theorem wpX11_taxi : (jyn iX11_taxi).cls ≠ "java/lang/invoke/MethodHandle" ∧ (jyn iX11_taxi).cls ≠ "java/lang/invoke/VarHandle" ∧ (parseMethodDescriptor (jyn iX11_taxi).desc).map (fun d => d.parameters.length) = some 1 := ⟨by decide +kernel, by decide +kernel, by decide +kernel⟩
theorem wcX11_ridden : Cond.code (jyn iX11_ridden) (jyc iX11_ridden) (jyl iX11_ridden) (jyr iX11_ridden) ∈ jTbl := jinT9 (List.mem_of_getElem? (i := 179) rfl) rfl
theorem wiX11_ridden : Cond.instanceMethod (jyn iX11_ridden) ∈ jTbl := jinT9 (List.mem_of_getElem? (i := 178) rfl) rfl
theorem wlX11_ridden : Cond.selects (jyn iX11_ridden).cls (jyn iX11_ridden) (jyn iX11_ridden) ∈ jTbl := jinS9 (x := (⟨"SchoolRidesModel", "ridden", "()I"⟩, 105)) 11 rfl
theorem wpX11_ridden : (jyn iX11_ridden).cls ≠ "java/lang/invoke/MethodHandle" ∧ (jyn iX11_ridden).cls ≠ "java/lang/invoke/VarHandle" ∧ (parseMethodDescriptor (jyn iX11_ridden).desc).map (fun d => d.parameters.length) = some 0 := ⟨by decide +kernel, by decide +kernel, by decide +kernel⟩
theorem wcX11_firstOf : Cond.code (jyn iX11_firstOf) (jyc iX11_firstOf) (jyl iX11_firstOf) (jyr iX11_firstOf) ∈ jTbl := jinT9 (List.mem_of_getElem? (i := 182) rfl) rfl
theorem wtX11_firstOf : Cond.static (jyn iX11_firstOf) ∈ jTbl := jinT9 (List.mem_of_getElem? (i := 181) rfl) rfl
theorem wpX11_firstOf : (jyn iX11_firstOf).cls ≠ "java/lang/invoke/MethodHandle" ∧ (jyn iX11_firstOf).cls ≠ "java/lang/invoke/VarHandle" ∧ (parseMethodDescriptor (jyn iX11_firstOf).desc).map (fun d => d.parameters.length) = some 1 := ⟨by decide +kernel, by decide +kernel, by decide +kernel⟩
theorem wcX11_offer : Cond.code (jyn iX11_offer) (jyc iX11_offer) (jyl iX11_offer) (jyr iX11_offer) ∈ jTbl := jinT9 (List.mem_of_getElem? (i := 190) rfl) rfl
theorem wiX11_offer : Cond.instanceMethod (jyn iX11_offer) ∈ jTbl := jinT9 (List.mem_of_getElem? (i := 189) rfl) rfl
theorem wlX11_offer : Cond.selects (jyn iX11_offer).cls (jyn iX11_offer) (jyn iX11_offer) ∈ jTbl := jinS9 (x := (⟨"SchoolRidesModel", "offer", "(IIII)V"⟩, 105)) 13 rfl
theorem wpX11_offer : (jyn iX11_offer).cls ≠ "java/lang/invoke/MethodHandle" ∧ (jyn iX11_offer).cls ≠ "java/lang/invoke/VarHandle" ∧ (parseMethodDescriptor (jyn iX11_offer).desc).map (fun d => d.parameters.length) = some 4 := ⟨by decide +kernel, by decide +kernel, by decide +kernel⟩
theorem wcX11_plans : Cond.code (jyn iX11_plans) (jyc iX11_plans) (jyl iX11_plans) (jyr iX11_plans) ∈ jTbl := jinT9 (List.mem_of_getElem? (i := 175) rfl) rfl
theorem wiX11_plans : Cond.instanceMethod (jyn iX11_plans) ∈ jTbl := jinT9 (List.mem_of_getElem? (i := 174) rfl) rfl
theorem wlX11_plans : Cond.selects (jyn iX11_plans).cls (jyn iX11_plans) (jyn iX11_plans) ∈ jTbl := jinS9 (x := (⟨"SchoolRidesModel", "plans", "()Z"⟩, 105)) 10 rfl
theorem wpX11_plans : (jyn iX11_plans).cls ≠ "java/lang/invoke/MethodHandle" ∧ (jyn iX11_plans).cls ≠ "java/lang/invoke/VarHandle" ∧ (parseMethodDescriptor (jyn iX11_plans).desc).map (fun d => d.parameters.length) = some 0 := ⟨by decide +kernel, by decide +kernel, by decide +kernel⟩
theorem wcX11_isBest : Cond.code (jyn iX11_isBest) (jyc iX11_isBest) (jyl iX11_isBest) (jyr iX11_isBest) ∈ jTbl := jinT9 (List.mem_of_getElem? (i := 198) rfl) rfl
theorem wiX11_isBest : Cond.instanceMethod (jyn iX11_isBest) ∈ jTbl := jinT9 (List.mem_of_getElem? (i := 197) rfl) rfl
theorem wlX11_isBest : Cond.selects (jyn iX11_isBest).cls (jyn iX11_isBest) (jyn iX11_isBest) ∈ jTbl := jinS9 (x := (⟨"SchoolRidesModel", "isBest", "(IIII)Z"⟩, 105)) 15 rfl
theorem wpX11_isBest : (jyn iX11_isBest).cls ≠ "java/lang/invoke/MethodHandle" ∧ (jyn iX11_isBest).cls ≠ "java/lang/invoke/VarHandle" ∧ (parseMethodDescriptor (jyn iX11_isBest).desc).map (fun d => d.parameters.length) = some 4 := ⟨by decide +kernel, by decide +kernel, by decide +kernel⟩
theorem wcX11_chosen : Cond.code (jyn iX11_chosen) (jyc iX11_chosen) (jyl iX11_chosen) (jyr iX11_chosen) ∈ jTbl := jinT9 (List.mem_of_getElem? (i := 194) rfl) rfl
theorem wiX11_chosen : Cond.instanceMethod (jyn iX11_chosen) ∈ jTbl := jinT9 (List.mem_of_getElem? (i := 193) rfl) rfl
theorem wlX11_chosen : Cond.selects (jyn iX11_chosen).cls (jyn iX11_chosen) (jyn iX11_chosen) ∈ jTbl := jinS9 (x := (⟨"SchoolRidesModel", "chosen", "(I)I"⟩, 105)) 14 rfl
theorem wpX11_chosen : (jyn iX11_chosen).cls ≠ "java/lang/invoke/MethodHandle" ∧ (jyn iX11_chosen).cls ≠ "java/lang/invoke/VarHandle" ∧ (parseMethodDescriptor (jyn iX11_chosen).desc).map (fun d => d.parameters.length) = some 1 := ⟨by decide +kernel, by decide +kernel, by decide +kernel⟩
theorem wcX11_planOf : Cond.code (jyn iX11_planOf) (jyc iX11_planOf) (jyl iX11_planOf) (jyr iX11_planOf) ∈ jTbl := jinT9 (List.mem_of_getElem? (i := 167) rfl) rfl
theorem wiX11_planOf : Cond.instanceMethod (jyn iX11_planOf) ∈ jTbl := jinT9 (List.mem_of_getElem? (i := 166) rfl) rfl
theorem wlX11_planOf : Cond.selects (jyn iX11_planOf).cls (jyn iX11_planOf) (jyn iX11_planOf) ∈ jTbl := jinS9 (x := (⟨"SchoolRidesModel", "planOf", "(III)I"⟩, 105)) 8 rfl
theorem wpX11_planOf : (jyn iX11_planOf).cls ≠ "java/lang/invoke/MethodHandle" ∧ (jyn iX11_planOf).cls ≠ "java/lang/invoke/VarHandle" ∧ (parseMethodDescriptor (jyn iX11_planOf).desc).map (fun d => d.parameters.length) = some 3 := ⟨by decide +kernel, by decide +kernel, by decide +kernel⟩
theorem wcX11_pay : Cond.code (jyn iX11_pay) (jyc iX11_pay) (jyl iX11_pay) (jyr iX11_pay) ∈ jTbl := jinT9 (List.mem_of_getElem? (i := 163) rfl) rfl
theorem wiX11_pay : Cond.instanceMethod (jyn iX11_pay) ∈ jTbl := jinT9 (List.mem_of_getElem? (i := 161) rfl) rfl
theorem wlX11_pay : Cond.selects (jyn iX11_pay).cls (jyn iX11_pay) (jyn iX11_pay) ∈ jTbl := jinT9 (List.mem_of_getElem? (i := 162) rfl) rfl
theorem wpX11_pay : (jyn iX11_pay).cls ≠ "java/lang/invoke/MethodHandle" ∧ (jyn iX11_pay).cls ≠ "java/lang/invoke/VarHandle" ∧ (parseMethodDescriptor (jyn iX11_pay).desc).map (fun d => d.parameters.length) = some 3 := ⟨by decide +kernel, by decide +kernel, by decide +kernel⟩
theorem wcX11_routes : Cond.code (jyn iX11_routes) (jyc iX11_routes) (jyl iX11_routes) (jyr iX11_routes) ∈ jTbl := jinT9 (List.mem_of_getElem? (i := 202) rfl) rfl
theorem wiX11_routes : Cond.instanceMethod (jyn iX11_routes) ∈ jTbl := jinT9 (List.mem_of_getElem? (i := 200) rfl) rfl
theorem wlX11_routes : Cond.selects (jyn iX11_routes).cls (jyn iX11_routes) (jyn iX11_routes) ∈ jTbl := jinT9 (List.mem_of_getElem? (i := 201) rfl) rfl
theorem wpX11_routes : (jyn iX11_routes).cls ≠ "java/lang/invoke/MethodHandle" ∧ (jyn iX11_routes).cls ≠ "java/lang/invoke/VarHandle" ∧ (parseMethodDescriptor (jyn iX11_routes).desc).map (fun d => d.parameters.length) = some 3 := ⟨by decide +kernel, by decide +kernel, by decide +kernel⟩
theorem wcX11_routeSet : Cond.code (jyn iX11_routeSet) (jyc iX11_routeSet) (jyl iX11_routeSet) (jyr iX11_routeSet) ∈ jTbl := jinT9 (List.mem_of_getElem? (i := 206) rfl) rfl
theorem wiX11_routeSet : Cond.instanceMethod (jyn iX11_routeSet) ∈ jTbl := jinT9 (List.mem_of_getElem? (i := 204) rfl) rfl
theorem wlX11_routeSet : Cond.selects (jyn iX11_routeSet).cls (jyn iX11_routeSet) (jyn iX11_routeSet) ∈ jTbl := jinT9 (List.mem_of_getElem? (i := 205) rfl) rfl
theorem wpX11_routeSet : (jyn iX11_routeSet).cls ≠ "java/lang/invoke/MethodHandle" ∧ (jyn iX11_routeSet).cls ≠ "java/lang/invoke/VarHandle" ∧ (parseMethodDescriptor (jyn iX11_routeSet).desc).map (fun d => d.parameters.length) = some 4 := ⟨by decide +kernel, by decide +kernel, by decide +kernel⟩
theorem wcX11_taxis : Cond.code (jyn iX11_taxis) (jyc iX11_taxis) (jyl iX11_taxis) (jyr iX11_taxis) ∈ jTbl := jinT9 (List.mem_of_getElem? (i := 210) rfl) rfl
theorem wiX11_taxis : Cond.instanceMethod (jyn iX11_taxis) ∈ jTbl := jinT9 (List.mem_of_getElem? (i := 208) rfl) rfl
theorem wlX11_taxis : Cond.selects (jyn iX11_taxis).cls (jyn iX11_taxis) (jyn iX11_taxis) ∈ jTbl := jinT9 (List.mem_of_getElem? (i := 209) rfl) rfl
theorem wpX11_taxis : (jyn iX11_taxis).cls ≠ "java/lang/invoke/MethodHandle" ∧ (jyn iX11_taxis).cls ≠ "java/lang/invoke/VarHandle" ∧ (parseMethodDescriptor (jyn iX11_taxis).desc).map (fun d => d.parameters.length) = some 3 := ⟨by decide +kernel, by decide +kernel, by decide +kernel⟩
theorem wcX11_fewest : Cond.code (jyn iX11_fewest) (jyc iX11_fewest) (jyl iX11_fewest) (jyr iX11_fewest) ∈ jTbl := jinT9 (List.mem_of_getElem? (i := 214) rfl) rfl
theorem wiX11_fewest : Cond.instanceMethod (jyn iX11_fewest) ∈ jTbl := jinT9 (List.mem_of_getElem? (i := 212) rfl) rfl
theorem wlX11_fewest : Cond.selects (jyn iX11_fewest).cls (jyn iX11_fewest) (jyn iX11_fewest) ∈ jTbl := jinT9 (List.mem_of_getElem? (i := 213) rfl) rfl
theorem wpX11_fewest : (jyn iX11_fewest).cls ≠ "java/lang/invoke/MethodHandle" ∧ (jyn iX11_fewest).cls ≠ "java/lang/invoke/VarHandle" ∧ (parseMethodDescriptor (jyn iX11_fewest).desc).map (fun d => d.parameters.length) = some 3 := ⟨by decide +kernel, by decide +kernel, by decide +kernel⟩
theorem wcX11_collects : Cond.code (jyn iX11_collects) (jyc iX11_collects) (jyl iX11_collects) (jyr iX11_collects) ∈ jTbl := jinT9 (List.mem_of_getElem? (i := 222) rfl) rfl
theorem wiX11_collects : Cond.instanceMethod (jyn iX11_collects) ∈ jTbl := jinT9 (List.mem_of_getElem? (i := 221) rfl) rfl
theorem wlX11_collects : Cond.selects (jyn iX11_collects).cls (jyn iX11_collects) (jyn iX11_collects) ∈ jTbl := jinS10 (x := (⟨"SchoolRidesModel", "collects", "(II)Z"⟩, 105)) 0 rfl
theorem wpX11_collects : (jyn iX11_collects).cls ≠ "java/lang/invoke/MethodHandle" ∧ (jyn iX11_collects).cls ≠ "java/lang/invoke/VarHandle" ∧ (parseMethodDescriptor (jyn iX11_collects).desc).map (fun d => d.parameters.length) = some 2 := ⟨by decide +kernel, by decide +kernel, by decide +kernel⟩
theorem wcX11_bellOf : Cond.code (jyn iX11_bellOf) (jyc iX11_bellOf) (jyl iX11_bellOf) (jyr iX11_bellOf) ∈ jTbl := jinT9 (List.mem_of_getElem? (i := 238) rfl) rfl
theorem wiX11_bellOf : Cond.instanceMethod (jyn iX11_bellOf) ∈ jTbl := jinT9 (List.mem_of_getElem? (i := 237) rfl) rfl
theorem wlX11_bellOf : Cond.selects (jyn iX11_bellOf).cls (jyn iX11_bellOf) (jyn iX11_bellOf) ∈ jTbl := jinS10 (x := (⟨"SchoolRidesModel", "bellOf", "(I)I"⟩, 105)) 4 rfl
theorem wpX11_bellOf : (jyn iX11_bellOf).cls ≠ "java/lang/invoke/MethodHandle" ∧ (jyn iX11_bellOf).cls ≠ "java/lang/invoke/VarHandle" ∧ (parseMethodDescriptor (jyn iX11_bellOf).desc).map (fun d => d.parameters.length) = some 1 := ⟨by decide +kernel, by decide +kernel, by decide +kernel⟩
theorem wcX11_isBehind : Cond.code (jyn iX11_isBehind) (jyc iX11_isBehind) (jyl iX11_isBehind) (jyr iX11_isBehind) ∈ jTbl := jinT9 (List.mem_of_getElem? (i := 234) rfl) rfl
theorem wiX11_isBehind : Cond.instanceMethod (jyn iX11_isBehind) ∈ jTbl := jinT9 (List.mem_of_getElem? (i := 233) rfl) rfl
theorem wlX11_isBehind : Cond.selects (jyn iX11_isBehind).cls (jyn iX11_isBehind) (jyn iX11_isBehind) ∈ jTbl := jinS10 (x := (⟨"SchoolRidesModel", "isBehind", "(II)Z"⟩, 105)) 3 rfl
theorem wpX11_isBehind : (jyn iX11_isBehind).cls ≠ "java/lang/invoke/MethodHandle" ∧ (jyn iX11_isBehind).cls ≠ "java/lang/invoke/VarHandle" ∧ (parseMethodDescriptor (jyn iX11_isBehind).desc).map (fun d => d.parameters.length) = some 2 := ⟨by decide +kernel, by decide +kernel, by decide +kernel⟩
theorem wcX11_finds : Cond.code (jyn iX11_finds) (jyc iX11_finds) (jyl iX11_finds) (jyr iX11_finds) ∈ jTbl := jinT9 (List.mem_of_getElem? (i := 230) rfl) rfl
theorem wiX11_finds : Cond.instanceMethod (jyn iX11_finds) ∈ jTbl := jinT9 (List.mem_of_getElem? (i := 229) rfl) rfl
theorem wlX11_finds : Cond.selects (jyn iX11_finds).cls (jyn iX11_finds) (jyn iX11_finds) ∈ jTbl := jinS10 (x := (⟨"SchoolRidesModel", "finds", "(I)Z"⟩, 105)) 2 rfl
theorem wpX11_finds : (jyn iX11_finds).cls ≠ "java/lang/invoke/MethodHandle" ∧ (jyn iX11_finds).cls ≠ "java/lang/invoke/VarHandle" ∧ (parseMethodDescriptor (jyn iX11_finds).desc).map (fun d => d.parameters.length) = some 1 := ⟨by decide +kernel, by decide +kernel, by decide +kernel⟩
theorem wcX11_busesOf : Cond.code (jyn iX11_busesOf) (jyc iX11_busesOf) (jyl iX11_busesOf) (jyr iX11_busesOf) ∈ jTbl := jinT9 (List.mem_of_getElem? (i := 226) rfl) rfl
theorem wiX11_busesOf : Cond.instanceMethod (jyn iX11_busesOf) ∈ jTbl := jinT9 (List.mem_of_getElem? (i := 225) rfl) rfl
theorem wlX11_busesOf : Cond.selects (jyn iX11_busesOf).cls (jyn iX11_busesOf) (jyn iX11_busesOf) ∈ jTbl := jinS10 (x := (⟨"SchoolRidesModel", "busesOf", "()I"⟩, 105)) 1 rfl
theorem wpX11_busesOf : (jyn iX11_busesOf).cls ≠ "java/lang/invoke/MethodHandle" ∧ (jyn iX11_busesOf).cls ≠ "java/lang/invoke/VarHandle" ∧ (parseMethodDescriptor (jyn iX11_busesOf).desc).map (fun d => d.parameters.length) = some 0 := ⟨by decide +kernel, by decide +kernel, by decide +kernel⟩
theorem wcX11_fleet : Cond.code (jyn iX11_fleet) (jyc iX11_fleet) (jyl iX11_fleet) (jyr iX11_fleet) ∈ jTbl := jinT9 (List.mem_of_getElem? (i := 218) rfl) rfl
theorem wiX11_fleet : Cond.instanceMethod (jyn iX11_fleet) ∈ jTbl := jinT9 (List.mem_of_getElem? (i := 216) rfl) rfl
theorem wlX11_fleet : Cond.selects (jyn iX11_fleet).cls (jyn iX11_fleet) (jyn iX11_fleet) ∈ jTbl := jinT9 (List.mem_of_getElem? (i := 217) rfl) rfl
theorem wpX11_fleet : (jyn iX11_fleet).cls ≠ "java/lang/invoke/MethodHandle" ∧ (jyn iX11_fleet).cls ≠ "java/lang/invoke/VarHandle" ∧ (parseMethodDescriptor (jyn iX11_fleet).desc).map (fun d => d.parameters.length) = some 2 := ⟨by decide +kernel, by decide +kernel, by decide +kernel⟩
theorem wcX11_plain : Cond.code (jyn iX11_plain) (jyc iX11_plain) (jyl iX11_plain) (jyr iX11_plain) ∈ jTbl := jinT10 (List.mem_of_getElem? (i := 9) rfl) rfl
theorem wtX11_plain : Cond.static (jyn iX11_plain) ∈ jTbl := jinT10 (List.mem_of_getElem? (i := 8) rfl) rfl
theorem wpX11_plain : (jyn iX11_plain).cls ≠ "java/lang/invoke/MethodHandle" ∧ (jyn iX11_plain).cls ≠ "java/lang/invoke/VarHandle" ∧ (parseMethodDescriptor (jyn iX11_plain).desc).map (fun d => d.parameters.length) = some 1 := ⟨by decide +kernel, by decide +kernel, by decide +kernel⟩
theorem wcX11_shiftedFleet : Cond.code (jyn iX11_shiftedFleet) (jyc iX11_shiftedFleet) (jyl iX11_shiftedFleet) (jyr iX11_shiftedFleet) ∈ jTbl := jinT10 (List.mem_of_getElem? (i := 6) rfl) rfl
theorem wiX11_shiftedFleet : Cond.instanceMethod (jyn iX11_shiftedFleet) ∈ jTbl := jinT10 (List.mem_of_getElem? (i := 5) rfl) rfl
theorem wlX11_shiftedFleet : Cond.selects (jyn iX11_shiftedFleet).cls (jyn iX11_shiftedFleet) (jyn iX11_shiftedFleet) ∈ jTbl := jinS10 (x := (⟨"SchoolRidesModel", "shiftedFleet", "(II)I"⟩, 105)) 5 rfl
theorem wpX11_shiftedFleet : (jyn iX11_shiftedFleet).cls ≠ "java/lang/invoke/MethodHandle" ∧ (jyn iX11_shiftedFleet).cls ≠ "java/lang/invoke/VarHandle" ∧ (parseMethodDescriptor (jyn iX11_shiftedFleet).desc).map (fun d => d.parameters.length) = some 2 := ⟨by decide +kernel, by decide +kernel, by decide +kernel⟩
theorem wcX11_shifted : Cond.code (jyn iX11_shifted) (jyc iX11_shifted) (jyl iX11_shifted) (jyr iX11_shifted) ∈ jTbl := jinT10 (List.mem_of_getElem? (i := 2) rfl) rfl
theorem wiX11_shifted : Cond.instanceMethod (jyn iX11_shifted) ∈ jTbl := jinT10 (List.mem_of_getElem? (i := 0) rfl) rfl
theorem wlX11_shifted : Cond.selects (jyn iX11_shifted).cls (jyn iX11_shifted) (jyn iX11_shifted) ∈ jTbl := jinT10 (List.mem_of_getElem? (i := 1) rfl) rfl
theorem wpX11_shifted : (jyn iX11_shifted).cls ≠ "java/lang/invoke/MethodHandle" ∧ (jyn iX11_shifted).cls ≠ "java/lang/invoke/VarHandle" ∧ (parseMethodDescriptor (jyn iX11_shifted).desc).map (fun d => d.parameters.length) = some 2 := ⟨by decide +kernel, by decide +kernel, by decide +kernel⟩
theorem wcX11_shift : Cond.code (jyn iX11_shift) (jyc iX11_shift) (jyl iX11_shift) (jyr iX11_shift) ∈ jTbl := jinT10 (List.mem_of_getElem? (i := 13) rfl) rfl
theorem wiX11_shift : Cond.instanceMethod (jyn iX11_shift) ∈ jTbl := jinT10 (List.mem_of_getElem? (i := 11) rfl) rfl
theorem wlX11_shift : Cond.selects (jyn iX11_shift).cls (jyn iX11_shift) (jyn iX11_shift) ∈ jTbl := jinT10 (List.mem_of_getElem? (i := 12) rfl) rfl
theorem wpX11_shift : (jyn iX11_shift).cls ≠ "java/lang/invoke/MethodHandle" ∧ (jyn iX11_shift).cls ≠ "java/lang/invoke/VarHandle" ∧ (parseMethodDescriptor (jyn iX11_shift).desc).map (fun d => d.parameters.length) = some 3 := ⟨by decide +kernel, by decide +kernel, by decide +kernel⟩
theorem wcX11_bid : Cond.code (jyn iX11_bid) (jyc iX11_bid) (jyl iX11_bid) (jyr iX11_bid) ∈ jTbl := jinT10 (List.mem_of_getElem? (i := 17) rfl) rfl
theorem wiX11_bid : Cond.instanceMethod (jyn iX11_bid) ∈ jTbl := jinT10 (List.mem_of_getElem? (i := 15) rfl) rfl
theorem wlX11_bid : Cond.selects (jyn iX11_bid).cls (jyn iX11_bid) (jyn iX11_bid) ∈ jTbl := jinT10 (List.mem_of_getElem? (i := 16) rfl) rfl
theorem wpX11_bid : (jyn iX11_bid).cls ≠ "java/lang/invoke/MethodHandle" ∧ (jyn iX11_bid).cls ≠ "java/lang/invoke/VarHandle" ∧ (parseMethodDescriptor (jyn iX11_bid).desc).map (fun d => d.parameters.length) = some 3 := ⟨by decide +kernel, by decide +kernel, by decide +kernel⟩
theorem wcX11_isBid : Cond.code (jyn iX11_isBid) (jyc iX11_isBid) (jyl iX11_isBid) (jyr iX11_isBid) ∈ jTbl := jinT10 (List.mem_of_getElem? (i := 25) rfl) rfl
theorem wiX11_isBid : Cond.instanceMethod (jyn iX11_isBid) ∈ jTbl := jinT10 (List.mem_of_getElem? (i := 24) rfl) rfl
theorem wlX11_isBid : Cond.selects (jyn iX11_isBid).cls (jyn iX11_isBid) (jyn iX11_isBid) ∈ jTbl := jinS10 (x := (⟨"SchoolRidesModel", "isBid", "(III)Z"⟩, 105)) 6 rfl
theorem wpX11_isBid : (jyn iX11_isBid).cls ≠ "java/lang/invoke/MethodHandle" ∧ (jyn iX11_isBid).cls ≠ "java/lang/invoke/VarHandle" ∧ (parseMethodDescriptor (jyn iX11_isBid).desc).map (fun d => d.parameters.length) = some 3 := ⟨by decide +kernel, by decide +kernel, by decide +kernel⟩
theorem wcX11_award : Cond.code (jyn iX11_award) (jyc iX11_award) (jyl iX11_award) (jyr iX11_award) ∈ jTbl := jinT10 (List.mem_of_getElem? (i := 21) rfl) rfl
theorem wiX11_award : Cond.instanceMethod (jyn iX11_award) ∈ jTbl := jinT10 (List.mem_of_getElem? (i := 19) rfl) rfl
theorem wlX11_award : Cond.selects (jyn iX11_award).cls (jyn iX11_award) (jyn iX11_award) ∈ jTbl := jinT10 (List.mem_of_getElem? (i := 20) rfl) rfl
theorem wpX11_award : (jyn iX11_award).cls ≠ "java/lang/invoke/MethodHandle" ∧ (jyn iX11_award).cls ≠ "java/lang/invoke/VarHandle" ∧ (parseMethodDescriptor (jyn iX11_award).desc).map (fun d => d.parameters.length) = some 2 := ⟨by decide +kernel, by decide +kernel, by decide +kernel⟩
theorem wcX11_awarded : Cond.code (jyn iX11_awarded) (jyc iX11_awarded) (jyl iX11_awarded) (jyr iX11_awarded) ∈ jTbl := jinT10 (List.mem_of_getElem? (i := 29) rfl) rfl
theorem wiX11_awarded : Cond.instanceMethod (jyn iX11_awarded) ∈ jTbl := jinT10 (List.mem_of_getElem? (i := 27) rfl) rfl
theorem wlX11_awarded : Cond.selects (jyn iX11_awarded).cls (jyn iX11_awarded) (jyn iX11_awarded) ∈ jTbl := jinT10 (List.mem_of_getElem? (i := 28) rfl) rfl
theorem wpX11_awarded : (jyn iX11_awarded).cls ≠ "java/lang/invoke/MethodHandle" ∧ (jyn iX11_awarded).cls ≠ "java/lang/invoke/VarHandle" ∧ (parseMethodDescriptor (jyn iX11_awarded).desc).map (fun d => d.parameters.length) = some 3 := ⟨by decide +kernel, by decide +kernel, by decide +kernel⟩
theorem wcX11_driver : Cond.code (jyn iX11_driver) (jyc iX11_driver) (jyl iX11_driver) (jyr iX11_driver) ∈ jTbl := jinT10 (List.mem_of_getElem? (i := 34) rfl) rfl
theorem wiX11_driver : Cond.instanceMethod (jyn iX11_driver) ∈ jTbl := jinT10 (List.mem_of_getElem? (i := 32) rfl) rfl
theorem wlX11_driver : Cond.selects (jyn iX11_driver).cls (jyn iX11_driver) (jyn iX11_driver) ∈ jTbl := jinT10 (List.mem_of_getElem? (i := 33) rfl) rfl
theorem wpX11_driver : (jyn iX11_driver).cls ≠ "java/lang/invoke/MethodHandle" ∧ (jyn iX11_driver).cls ≠ "java/lang/invoke/VarHandle" ∧ (parseMethodDescriptor (jyn iX11_driver).desc).map (fun d => d.parameters.length) = some 1 := ⟨by decide +kernel, by decide +kernel, by decide +kernel⟩
theorem wcX11_leave : Cond.code (jyn iX11_leave) (jyc iX11_leave) (jyl iX11_leave) (jyr iX11_leave) ∈ jTbl := jinT10 (List.mem_of_getElem? (i := 38) rfl) rfl
theorem wiX11_leave : Cond.instanceMethod (jyn iX11_leave) ∈ jTbl := jinT10 (List.mem_of_getElem? (i := 36) rfl) rfl
theorem wlX11_leave : Cond.selects (jyn iX11_leave).cls (jyn iX11_leave) (jyn iX11_leave) ∈ jTbl := jinT10 (List.mem_of_getElem? (i := 37) rfl) rfl
theorem wpX11_leave : (jyn iX11_leave).cls ≠ "java/lang/invoke/MethodHandle" ∧ (jyn iX11_leave).cls ≠ "java/lang/invoke/VarHandle" ∧ (parseMethodDescriptor (jyn iX11_leave).desc).map (fun d => d.parameters.length) = some 2 := ⟨by decide +kernel, by decide +kernel, by decide +kernel⟩
theorem wcX11_weigh : Cond.code (jyn iX11_weigh) (jyc iX11_weigh) (jyl iX11_weigh) (jyr iX11_weigh) ∈ jTbl := jinT10 (List.mem_of_getElem? (i := 42) rfl) rfl
theorem wiX11_weigh : Cond.instanceMethod (jyn iX11_weigh) ∈ jTbl := jinT10 (List.mem_of_getElem? (i := 40) rfl) rfl
theorem wlX11_weigh : Cond.selects (jyn iX11_weigh).cls (jyn iX11_weigh) (jyn iX11_weigh) ∈ jTbl := jinT10 (List.mem_of_getElem? (i := 41) rfl) rfl
theorem wpX11_weigh : (jyn iX11_weigh).cls ≠ "java/lang/invoke/MethodHandle" ∧ (jyn iX11_weigh).cls ≠ "java/lang/invoke/VarHandle" ∧ (parseMethodDescriptor (jyn iX11_weigh).desc).map (fun d => d.parameters.length) = some 2 := ⟨by decide +kernel, by decide +kernel, by decide +kernel⟩
theorem wcX11_mayDrive : Cond.code (jyn iX11_mayDrive) (jyc iX11_mayDrive) (jyl iX11_mayDrive) (jyr iX11_mayDrive) ∈ jTbl := jinT10 (List.mem_of_getElem? (i := 54) rfl) rfl
theorem wiX11_mayDrive : Cond.instanceMethod (jyn iX11_mayDrive) ∈ jTbl := jinT10 (List.mem_of_getElem? (i := 53) rfl) rfl
theorem wlX11_mayDrive : Cond.selects (jyn iX11_mayDrive).cls (jyn iX11_mayDrive) (jyn iX11_mayDrive) ∈ jTbl := jinS10 (x := (⟨"SchoolRidesModel", "mayDrive", "(III)Z"⟩, 105)) 8 rfl
theorem wpX11_mayDrive : (jyn iX11_mayDrive).cls ≠ "java/lang/invoke/MethodHandle" ∧ (jyn iX11_mayDrive).cls ≠ "java/lang/invoke/VarHandle" ∧ (parseMethodDescriptor (jyn iX11_mayDrive).desc).map (fun d => d.parameters.length) = some 3 := ⟨by decide +kernel, by decide +kernel, by decide +kernel⟩
theorem wcX11_covers : Cond.code (jyn iX11_covers) (jyc iX11_covers) (jyl iX11_covers) (jyr iX11_covers) ∈ jTbl := jinT10 (List.mem_of_getElem? (i := 50) rfl) rfl
theorem wiX11_covers : Cond.instanceMethod (jyn iX11_covers) ∈ jTbl := jinT10 (List.mem_of_getElem? (i := 49) rfl) rfl
theorem wlX11_covers : Cond.selects (jyn iX11_covers).cls (jyn iX11_covers) (jyn iX11_covers) ∈ jTbl := jinS10 (x := (⟨"SchoolRidesModel", "covers", "(I)V"⟩, 105)) 7 rfl
theorem wpX11_covers : (jyn iX11_covers).cls ≠ "java/lang/invoke/MethodHandle" ∧ (jyn iX11_covers).cls ≠ "java/lang/invoke/VarHandle" ∧ (parseMethodDescriptor (jyn iX11_covers).desc).map (fun d => d.parameters.length) = some 1 := ⟨by decide +kernel, by decide +kernel, by decide +kernel⟩
theorem wcX11_cover : Cond.code (jyn iX11_cover) (jyc iX11_cover) (jyl iX11_cover) (jyr iX11_cover) ∈ jTbl := jinT10 (List.mem_of_getElem? (i := 46) rfl) rfl
theorem wiX11_cover : Cond.instanceMethod (jyn iX11_cover) ∈ jTbl := jinT10 (List.mem_of_getElem? (i := 44) rfl) rfl
theorem wlX11_cover : Cond.selects (jyn iX11_cover).cls (jyn iX11_cover) (jyn iX11_cover) ∈ jTbl := jinT10 (List.mem_of_getElem? (i := 45) rfl) rfl
theorem wpX11_cover : (jyn iX11_cover).cls ≠ "java/lang/invoke/MethodHandle" ∧ (jyn iX11_cover).cls ≠ "java/lang/invoke/VarHandle" ∧ (parseMethodDescriptor (jyn iX11_cover).desc).map (fun d => d.parameters.length) = some 1 := ⟨by decide +kernel, by decide +kernel, by decide +kernel⟩
theorem wcX11_drives : Cond.code (jyn iX11_drives) (jyc iX11_drives) (jyl iX11_drives) (jyr iX11_drives) ∈ jTbl := jinT10 (List.mem_of_getElem? (i := 58) rfl) rfl
theorem wiX11_drives : Cond.instanceMethod (jyn iX11_drives) ∈ jTbl := jinT10 (List.mem_of_getElem? (i := 56) rfl) rfl
theorem wlX11_drives : Cond.selects (jyn iX11_drives).cls (jyn iX11_drives) (jyn iX11_drives) ∈ jTbl := jinT10 (List.mem_of_getElem? (i := 57) rfl) rfl
theorem wpX11_drives : (jyn iX11_drives).cls ≠ "java/lang/invoke/MethodHandle" ∧ (jyn iX11_drives).cls ≠ "java/lang/invoke/VarHandle" ∧ (parseMethodDescriptor (jyn iX11_drives).desc).map (fun d => d.parameters.length) = some 2 := ⟨by decide +kernel, by decide +kernel, by decide +kernel⟩
theorem wcX11_call : Cond.code (jyn iX11_call) (jyc iX11_call) (jyl iX11_call) (jyr iX11_call) ∈ jTbl := jinT10 (List.mem_of_getElem? (i := 62) rfl) rfl
theorem wiX11_call : Cond.instanceMethod (jyn iX11_call) ∈ jTbl := jinT10 (List.mem_of_getElem? (i := 60) rfl) rfl
theorem wlX11_call : Cond.selects (jyn iX11_call).cls (jyn iX11_call) (jyn iX11_call) ∈ jTbl := jinT10 (List.mem_of_getElem? (i := 61) rfl) rfl
theorem wpX11_call : (jyn iX11_call).cls ≠ "java/lang/invoke/MethodHandle" ∧ (jyn iX11_call).cls ≠ "java/lang/invoke/VarHandle" ∧ (parseMethodDescriptor (jyn iX11_call).desc).map (fun d => d.parameters.length) = some 3 := ⟨by decide +kernel, by decide +kernel, by decide +kernel⟩
theorem wcX11_snow : Cond.code (jyn iX11_snow) (jyc iX11_snow) (jyl iX11_snow) (jyr iX11_snow) ∈ jTbl := jinT10 (List.mem_of_getElem? (i := 70) rfl) rfl
theorem wiX11_snow : Cond.instanceMethod (jyn iX11_snow) ∈ jTbl := jinT10 (List.mem_of_getElem? (i := 69) rfl) rfl
theorem wlX11_snow : Cond.selects (jyn iX11_snow).cls (jyn iX11_snow) (jyn iX11_snow) ∈ jTbl := jinS10 (x := (⟨"SchoolRidesModel", "snow", "(I)V"⟩, 105)) 9 rfl
theorem wpX11_snow : (jyn iX11_snow).cls ≠ "java/lang/invoke/MethodHandle" ∧ (jyn iX11_snow).cls ≠ "java/lang/invoke/VarHandle" ∧ (parseMethodDescriptor (jyn iX11_snow).desc).map (fun d => d.parameters.length) = some 1 := ⟨by decide +kernel, by decide +kernel, by decide +kernel⟩
theorem wcX11_told : Cond.code (jyn iX11_told) (jyc iX11_told) (jyl iX11_told) (jyr iX11_told) ∈ jTbl := jinT10 (List.mem_of_getElem? (i := 66) rfl) rfl
theorem wiX11_told : Cond.instanceMethod (jyn iX11_told) ∈ jTbl := jinT10 (List.mem_of_getElem? (i := 64) rfl) rfl
theorem wlX11_told : Cond.selects (jyn iX11_told).cls (jyn iX11_told) (jyn iX11_told) ∈ jTbl := jinT10 (List.mem_of_getElem? (i := 65) rfl) rfl
theorem wpX11_told : (jyn iX11_told).cls ≠ "java/lang/invoke/MethodHandle" ∧ (jyn iX11_told).cls ≠ "java/lang/invoke/VarHandle" ∧ (parseMethodDescriptor (jyn iX11_told).desc).map (fun d => d.parameters.length) = some 2 := ⟨by decide +kernel, by decide +kernel, by decide +kernel⟩
theorem wcX11_soonest : Cond.code (jyn iX11_soonest) (jyc iX11_soonest) (jyl iX11_soonest) (jyr iX11_soonest) ∈ jTbl := jinT10 (List.mem_of_getElem? (i := 74) rfl) rfl
theorem wiX11_soonest : Cond.instanceMethod (jyn iX11_soonest) ∈ jTbl := jinT10 (List.mem_of_getElem? (i := 72) rfl) rfl
theorem wlX11_soonest : Cond.selects (jyn iX11_soonest).cls (jyn iX11_soonest) (jyn iX11_soonest) ∈ jTbl := jinT10 (List.mem_of_getElem? (i := 73) rfl) rfl
theorem wpX11_soonest : (jyn iX11_soonest).cls ≠ "java/lang/invoke/MethodHandle" ∧ (jyn iX11_soonest).cls ≠ "java/lang/invoke/VarHandle" ∧ (parseMethodDescriptor (jyn iX11_soonest).desc).map (fun d => d.parameters.length) = some 0 := ⟨by decide +kernel, by decide +kernel, by decide +kernel⟩
theorem wcX11_isLent : Cond.code (jyn iX11_isLent) (jyc iX11_isLent) (jyl iX11_isLent) (jyr iX11_isLent) ∈ jTbl := jinT10 (List.mem_of_getElem? (i := 86) rfl) rfl
theorem wiX11_isLent : Cond.instanceMethod (jyn iX11_isLent) ∈ jTbl := jinT10 (List.mem_of_getElem? (i := 85) rfl) rfl
theorem wlX11_isLent : Cond.selects (jyn iX11_isLent).cls (jyn iX11_isLent) (jyn iX11_isLent) ∈ jTbl := jinS10 (x := (⟨"SchoolRidesModel", "isLent", "(III)Z"⟩, 105)) 11 rfl
theorem wpX11_isLent : (jyn iX11_isLent).cls ≠ "java/lang/invoke/MethodHandle" ∧ (jyn iX11_isLent).cls ≠ "java/lang/invoke/VarHandle" ∧ (parseMethodDescriptor (jyn iX11_isLent).desc).map (fun d => d.parameters.length) = some 3 := ⟨by decide +kernel, by decide +kernel, by decide +kernel⟩
theorem wcX11_lend : Cond.code (jyn iX11_lend) (jyc iX11_lend) (jyl iX11_lend) (jyr iX11_lend) ∈ jTbl := jinT10 (List.mem_of_getElem? (i := 82) rfl) rfl
theorem wiX11_lend : Cond.instanceMethod (jyn iX11_lend) ∈ jTbl := jinT10 (List.mem_of_getElem? (i := 81) rfl) rfl
theorem wlX11_lend : Cond.selects (jyn iX11_lend).cls (jyn iX11_lend) (jyn iX11_lend) ∈ jTbl := jinS10 (x := (⟨"SchoolRidesModel", "lend", "(II)V"⟩, 105)) 10 rfl
theorem wpX11_lend : (jyn iX11_lend).cls ≠ "java/lang/invoke/MethodHandle" ∧ (jyn iX11_lend).cls ≠ "java/lang/invoke/VarHandle" ∧ (parseMethodDescriptor (jyn iX11_lend).desc).map (fun d => d.parameters.length) = some 2 := ⟨by decide +kernel, by decide +kernel, by decide +kernel⟩
theorem wcX11_lent : Cond.code (jyn iX11_lent) (jyc iX11_lent) (jyl iX11_lent) (jyr iX11_lent) ∈ jTbl := jinT10 (List.mem_of_getElem? (i := 78) rfl) rfl
theorem wiX11_lent : Cond.instanceMethod (jyn iX11_lent) ∈ jTbl := jinT10 (List.mem_of_getElem? (i := 76) rfl) rfl
theorem wlX11_lent : Cond.selects (jyn iX11_lent).cls (jyn iX11_lent) (jyn iX11_lent) ∈ jTbl := jinT10 (List.mem_of_getElem? (i := 77) rfl) rfl
theorem wpX11_lent : (jyn iX11_lent).cls ≠ "java/lang/invoke/MethodHandle" ∧ (jyn iX11_lent).cls ≠ "java/lang/invoke/VarHandle" ∧ (parseMethodDescriptor (jyn iX11_lent).desc).map (fun d => d.parameters.length) = some 1 := ⟨by decide +kernel, by decide +kernel, by decide +kernel⟩
theorem wcX11_lentAt : Cond.code (jyn iX11_lentAt) (jyc iX11_lentAt) (jyl iX11_lentAt) (jyr iX11_lentAt) ∈ jTbl := jinT10 (List.mem_of_getElem? (i := 90) rfl) rfl
theorem wiX11_lentAt : Cond.instanceMethod (jyn iX11_lentAt) ∈ jTbl := jinT10 (List.mem_of_getElem? (i := 88) rfl) rfl
theorem wlX11_lentAt : Cond.selects (jyn iX11_lentAt).cls (jyn iX11_lentAt) (jyn iX11_lentAt) ∈ jTbl := jinT10 (List.mem_of_getElem? (i := 89) rfl) rfl
theorem wpX11_lentAt : (jyn iX11_lentAt).cls ≠ "java/lang/invoke/MethodHandle" ∧ (jyn iX11_lentAt).cls ≠ "java/lang/invoke/VarHandle" ∧ (parseMethodDescriptor (jyn iX11_lentAt).desc).map (fun d => d.parameters.length) = some 3 := ⟨by decide +kernel, by decide +kernel, by decide +kernel⟩
theorem wcX11_count : Cond.code (jyn iX11_count) (jyc iX11_count) (jyl iX11_count) (jyr iX11_count) ∈ jTbl := jinT10 (List.mem_of_getElem? (i := 94) rfl) rfl
theorem wiX11_count : Cond.instanceMethod (jyn iX11_count) ∈ jTbl := jinT10 (List.mem_of_getElem? (i := 92) rfl) rfl
theorem wlX11_count : Cond.selects (jyn iX11_count).cls (jyn iX11_count) (jyn iX11_count) ∈ jTbl := jinT10 (List.mem_of_getElem? (i := 93) rfl) rfl
theorem wpX11_count : (jyn iX11_count).cls ≠ "java/lang/invoke/MethodHandle" ∧ (jyn iX11_count).cls ≠ "java/lang/invoke/VarHandle" ∧ (parseMethodDescriptor (jyn iX11_count).desc).map (fun d => d.parameters.length) = some 1 := ⟨by decide +kernel, by decide +kernel, by decide +kernel⟩
theorem wcX11_countOf : Cond.code (jyn iX11_countOf) (jyc iX11_countOf) (jyl iX11_countOf) (jyr iX11_countOf) ∈ jTbl := jinT10 (List.mem_of_getElem? (i := 98) rfl) rfl
theorem wiX11_countOf : Cond.instanceMethod (jyn iX11_countOf) ∈ jTbl := jinT10 (List.mem_of_getElem? (i := 97) rfl) rfl
theorem wlX11_countOf : Cond.selects (jyn iX11_countOf).cls (jyn iX11_countOf) (jyn iX11_countOf) ∈ jTbl := jinS10 (x := (⟨"SchoolRidesModel", "countOf", "(I)I"⟩, 105)) 12 rfl
theorem wpX11_countOf : (jyn iX11_countOf).cls ≠ "java/lang/invoke/MethodHandle" ∧ (jyn iX11_countOf).cls ≠ "java/lang/invoke/VarHandle" ∧ (parseMethodDescriptor (jyn iX11_countOf).desc).map (fun d => d.parameters.length) = some 1 := ⟨by decide +kernel, by decide +kernel, by decide +kernel⟩
theorem wcJ6_bitCount_0f7a4 : Cond.code (jyn iJ6_bitCount_0f7a4) (jyc iJ6_bitCount_0f7a4) (jyl iJ6_bitCount_0f7a4) (jyr iJ6_bitCount_0f7a4) ∈ jTbl := jinT5 (List.mem_of_getElem? (i := 59) rfl) rfl
theorem wtJ6_bitCount_0f7a4 : Cond.static (jyn iJ6_bitCount_0f7a4) ∈ jTbl := jinT5 (List.mem_of_getElem? (i := 58) rfl) rfl
theorem wnJ6 : Cond.initialized RJ6 ∈ jTbl := jinT1 (List.mem_of_getElem? (i := 20) rfl) rfl
theorem wpJ6_bitCount_0f7a4 : (jyn iJ6_bitCount_0f7a4).cls ≠ "java/lang/invoke/MethodHandle" ∧ (jyn iJ6_bitCount_0f7a4).cls ≠ "java/lang/invoke/VarHandle" ∧ (parseMethodDescriptor (jyn iJ6_bitCount_0f7a4).desc).map (fun d => d.parameters.length) = some 1 := ⟨by decide +kernel, by decide +kernel, by decide +kernel⟩
theorem wcJ7_fill_53178 : Cond.code (jyn iJ7_fill_53178) (jyc iJ7_fill_53178) (jyl iJ7_fill_53178) (jyr iJ7_fill_53178) ∈ jTbl := jinT3 (List.mem_of_getElem? (i := 75) rfl) rfl
theorem wtJ7_fill_53178 : Cond.static (jyn iJ7_fill_53178) ∈ jTbl := jinT3 (List.mem_of_getElem? (i := 74) rfl) rfl
theorem wnJ7 : Cond.initialized RJ7 ∈ jTbl := jinT1 (List.mem_of_getElem? (i := 15) rfl) rfl
theorem wpJ7_fill_53178 : (jyn iJ7_fill_53178).cls ≠ "java/lang/invoke/MethodHandle" ∧ (jyn iJ7_fill_53178).cls ≠ "java/lang/invoke/VarHandle" ∧ (parseMethodDescriptor (jyn iJ7_fill_53178).desc).map (fun d => d.parameters.length) = some 2 := ⟨by decide +kernel, by decide +kernel, by decide +kernel⟩
