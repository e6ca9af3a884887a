/-! the cells of the world after both constructors: arrays (kind, length, first row) or objects (class, field codes: 0 an int, 1 a long, r + 2 the cell r) -/
abbrev Shp : Type := (Nat × Nat × Nat) ⊕ (Nat × List Nat)
def gsL : List Shp := [.inr (10, [3, 4, 5, 6, 7, 8, 9, 10, 11]), .inr (1, [0, 0, 0, 15, 16, 0, 17, 18, 19, 20, 21, 22]), .inr (7, [3, 23, 24, 29, 34, 39, 40, 41, 46]), .inr (0, [3, 4, 51, 0, 0, 0]), .inr (2, [3, 4, 52, 53]), .inr (6, [3, 4, 54, 55, 56, 0, 12]), .inr (8, [3, 4, 57, 58, 13]), .inr (3, [3, 4, 59, 60, 0, 1]), .inr (4, [61, 14, 0, 1, 0]), .inr (9, [62, 67, 68, 0]), .inr (5, [1, 1]), .inr (5, [1, 1]), .inr (5, [1, 1]), .inl (0, 14, 0), .inl (0, 14, 0), .inl (0, 150, 0), .inl (0, 150, 0), .inl (0, 150, 0), .inl (0, 150, 0), .inl (0, 150, 0), .inl (0, 150, 0), .inl (0, 4, 0), .inl (3, 4, 23), .inl (0, 8, 0), .inl (0, 8, 0), .inl (0, 8, 0), .inl (0, 8, 0), .inl (3, 4, 28), .inl (0, 8, 0), .inl (0, 8, 0), .inl (0, 8, 0), .inl (0, 8, 0), .inl (3, 4, 33), .inl (0, 8, 0), .inl (0, 8, 0), .inl (0, 8, 0), .inl (0, 8, 0), .inl (1, 14, 0), .inl (0, 150, 0), .inl (3, 4, 40), .inl (0, 14, 0), .inl (0, 14, 0), .inl (0, 14, 0), .inl (0, 14, 0), .inl (3, 4, 45), .inl (0, 14, 0), .inl (0, 14, 0), .inl (0, 14, 0), .inl (0, 14, 0), .inl (0, 14, 0), .inl (0, 14, 0), .inl (0, 14, 0), .inl (1, 14, 0), .inl (1, 14, 0), .inl (1, 105, 0), .inl (1, 14, 0), .inl (1, 14, 0), .inl (0, 14, 0), .inl (0, 2, 0), .inl (0, 60, 0), .inl (3, 4, 61), .inl (0, 60, 0), .inl (0, 60, 0), .inl (0, 60, 0), .inl (0, 60, 0), .inl (0, 4, 0), .inl (0, 4, 0), .inr (11, [0, 0, 70, 71, 0, 72, 73, 74, 75, 76, 77, 0, 0, 0, 78, 79, 80, 81, 82, 83, 84, 1, 85, 0, 86, 1, 1, 1, 1, 0, 87, 0, 0, 1, 1, 1, 88, 89, 90, 91, 92, 0]), .inl (0, 14, 0), .inl (0, 14, 0), .inl (0, 150, 0), .inl (0, 150, 0), .inl (0, 150, 0), .inl (0, 150, 0), .inl (0, 150, 0), .inl (0, 150, 0), .inl (0, 4, 0), .inl (0, 600, 0), .inl (1, 600, 0), .inl (0, 600, 0), .inl (0, 56, 0), .inl (1, 56, 0), .inl (0, 14, 0), .inl (1, 14, 0), .inl (1, 105, 0), .inl (0, 60, 0), .inl (2, 4, 0), .inl (0, 4, 0), .inl (0, 4, 0), .inl (0, 240, 0), .inl (0, 60, 0)]
def gN : Nat := 91
def gs (c : Nat) : Shp := gsL.getD c (.inr (0, []))
theorem sh_0 : gs 0 = .inr (10, [3, 4, 5, 6, 7, 8, 9, 10, 11]) := rfl
theorem sh_1 : gs 1 = .inr (1, [0, 0, 0, 15, 16, 0, 17, 18, 19, 20, 21, 22]) := rfl
theorem sh_2 : gs 2 = .inr (7, [3, 23, 24, 29, 34, 39, 40, 41, 46]) := rfl
theorem sh_3 : gs 3 = .inr (0, [3, 4, 51, 0, 0, 0]) := rfl
theorem sh_4 : gs 4 = .inr (2, [3, 4, 52, 53]) := rfl
theorem sh_5 : gs 5 = .inr (6, [3, 4, 54, 55, 56, 0, 12]) := rfl
theorem sh_6 : gs 6 = .inr (8, [3, 4, 57, 58, 13]) := rfl
theorem sh_7 : gs 7 = .inr (3, [3, 4, 59, 60, 0, 1]) := rfl
theorem sh_8 : gs 8 = .inr (4, [61, 14, 0, 1, 0]) := rfl
theorem sh_9 : gs 9 = .inr (9, [62, 67, 68, 0]) := rfl
theorem sh_10 : gs 10 = .inr (5, [1, 1]) := rfl
theorem sh_11 : gs 11 = .inr (5, [1, 1]) := rfl
theorem sh_12 : gs 12 = .inr (5, [1, 1]) := rfl
theorem sh_13 : gs 13 = .inl (0, 14, 0) := rfl
theorem sh_14 : gs 14 = .inl (0, 14, 0) := rfl
theorem sh_15 : gs 15 = .inl (0, 150, 0) := rfl
theorem sh_16 : gs 16 = .inl (0, 150, 0) := rfl
theorem sh_17 : gs 17 = .inl (0, 150, 0) := rfl
theorem sh_18 : gs 18 = .inl (0, 150, 0) := rfl
theorem sh_19 : gs 19 = .inl (0, 150, 0) := rfl
theorem sh_20 : gs 20 = .inl (0, 150, 0) := rfl
theorem sh_21 : gs 21 = .inl (0, 4, 0) := rfl
theorem sh_22 : gs 22 = .inl (3, 4, 23) := rfl
theorem sh_23 : gs 23 = .inl (0, 8, 0) := rfl
theorem sh_24 : gs 24 = .inl (0, 8, 0) := rfl
theorem sh_25 : gs 25 = .inl (0, 8, 0) := rfl
theorem sh_26 : gs 26 = .inl (0, 8, 0) := rfl
theorem sh_27 : gs 27 = .inl (3, 4, 28) := rfl
theorem sh_28 : gs 28 = .inl (0, 8, 0) := rfl
theorem sh_29 : gs 29 = .inl (0, 8, 0) := rfl
theorem sh_30 : gs 30 = .inl (0, 8, 0) := rfl
theorem sh_31 : gs 31 = .inl (0, 8, 0) := rfl
theorem sh_32 : gs 32 = .inl (3, 4, 33) := rfl
theorem sh_33 : gs 33 = .inl (0, 8, 0) := rfl
theorem sh_34 : gs 34 = .inl (0, 8, 0) := rfl
theorem sh_35 : gs 35 = .inl (0, 8, 0) := rfl
theorem sh_36 : gs 36 = .inl (0, 8, 0) := rfl
theorem sh_37 : gs 37 = .inl (1, 14, 0) := rfl
theorem sh_38 : gs 38 = .inl (0, 150, 0) := rfl
theorem sh_39 : gs 39 = .inl (3, 4, 40) := rfl
theorem sh_40 : gs 40 = .inl (0, 14, 0) := rfl
theorem sh_41 : gs 41 = .inl (0, 14, 0) := rfl
theorem sh_42 : gs 42 = .inl (0, 14, 0) := rfl
theorem sh_43 : gs 43 = .inl (0, 14, 0) := rfl
theorem sh_44 : gs 44 = .inl (3, 4, 45) := rfl
theorem sh_45 : gs 45 = .inl (0, 14, 0) := rfl
theorem sh_46 : gs 46 = .inl (0, 14, 0) := rfl
theorem sh_47 : gs 47 = .inl (0, 14, 0) := rfl
theorem sh_48 : gs 48 = .inl (0, 14, 0) := rfl
theorem sh_49 : gs 49 = .inl (0, 14, 0) := rfl
theorem sh_50 : gs 50 = .inl (0, 14, 0) := rfl
theorem sh_51 : gs 51 = .inl (0, 14, 0) := rfl
theorem sh_52 : gs 52 = .inl (1, 14, 0) := rfl
theorem sh_53 : gs 53 = .inl (1, 14, 0) := rfl
theorem sh_54 : gs 54 = .inl (1, 105, 0) := rfl
theorem sh_55 : gs 55 = .inl (1, 14, 0) := rfl
theorem sh_56 : gs 56 = .inl (1, 14, 0) := rfl
theorem sh_57 : gs 57 = .inl (0, 14, 0) := rfl
theorem sh_58 : gs 58 = .inl (0, 2, 0) := rfl
theorem sh_59 : gs 59 = .inl (0, 60, 0) := rfl
theorem sh_60 : gs 60 = .inl (3, 4, 61) := rfl
theorem sh_61 : gs 61 = .inl (0, 60, 0) := rfl
theorem sh_62 : gs 62 = .inl (0, 60, 0) := rfl
theorem sh_63 : gs 63 = .inl (0, 60, 0) := rfl
theorem sh_64 : gs 64 = .inl (0, 60, 0) := rfl
theorem sh_65 : gs 65 = .inl (0, 4, 0) := rfl
theorem sh_66 : gs 66 = .inl (0, 4, 0) := rfl
theorem sh_67 : gs 67 = .inr (11, [0, 0, 70, 71, 0, 72, 73, 74, 75, 76, 77, 0, 0, 0, 78, 79, 80, 81, 82, 83, 84, 1, 85, 0, 86, 1, 1, 1, 1, 0, 87, 0, 0, 1, 1, 1, 88, 89, 90, 91, 92, 0]) := rfl
theorem sh_68 : gs 68 = .inl (0, 14, 0) := rfl
theorem sh_69 : gs 69 = .inl (0, 14, 0) := rfl
theorem sh_70 : gs 70 = .inl (0, 150, 0) := rfl
theorem sh_71 : gs 71 = .inl (0, 150, 0) := rfl
theorem sh_72 : gs 72 = .inl (0, 150, 0) := rfl
theorem sh_73 : gs 73 = .inl (0, 150, 0) := rfl
theorem sh_74 : gs 74 = .inl (0, 150, 0) := rfl
theorem sh_75 : gs 75 = .inl (0, 150, 0) := rfl
theorem sh_76 : gs 76 = .inl (0, 4, 0) := rfl
theorem sh_77 : gs 77 = .inl (0, 600, 0) := rfl
theorem sh_78 : gs 78 = .inl (1, 600, 0) := rfl
theorem sh_79 : gs 79 = .inl (0, 600, 0) := rfl
theorem sh_80 : gs 80 = .inl (0, 56, 0) := rfl
theorem sh_81 : gs 81 = .inl (1, 56, 0) := rfl
theorem sh_82 : gs 82 = .inl (0, 14, 0) := rfl
theorem sh_83 : gs 83 = .inl (1, 14, 0) := rfl
theorem sh_84 : gs 84 = .inl (1, 105, 0) := rfl
theorem sh_85 : gs 85 = .inl (0, 60, 0) := rfl
theorem sh_86 : gs 86 = .inl (2, 4, 0) := rfl
theorem sh_87 : gs 87 = .inl (0, 4, 0) := rfl
theorem sh_88 : gs 88 = .inl (0, 4, 0) := rfl
theorem sh_89 : gs 89 = .inl (0, 240, 0) := rfl
theorem sh_90 : gs 90 = .inl (0, 60, 0) := rfl
theorem sr_23 {j : Nat} (h : j < 4) : gs (23 + j) = .inl (0, 8, 0) := by
  match j, h with
  | 0, _ => rfl
  | 1, _ => rfl
  | 2, _ => rfl
  | 3, _ => rfl
theorem sr_28 {j : Nat} (h : j < 4) : gs (28 + j) = .inl (0, 8, 0) := by
  match j, h with
  | 0, _ => rfl
  | 1, _ => rfl
  | 2, _ => rfl
  | 3, _ => rfl
theorem sr_33 {j : Nat} (h : j < 4) : gs (33 + j) = .inl (0, 8, 0) := by
  match j, h with
  | 0, _ => rfl
  | 1, _ => rfl
  | 2, _ => rfl
  | 3, _ => rfl
theorem sr_40 {j : Nat} (h : j < 4) : gs (40 + j) = .inl (0, 14, 0) := by
  match j, h with
  | 0, _ => rfl
  | 1, _ => rfl
  | 2, _ => rfl
  | 3, _ => rfl
theorem sr_45 {j : Nat} (h : j < 4) : gs (45 + j) = .inl (0, 14, 0) := by
  match j, h with
  | 0, _ => rfl
  | 1, _ => rfl
  | 2, _ => rfl
  | 3, _ => rfl
theorem sr_61 {j : Nat} (h : j < 4) : gs (61 + j) = .inl (0, 60, 0) := by
  match j, h with
  | 0, _ => rfl
  | 1, _ => rfl
  | 2, _ => rfl
  | 3, _ => rfl
theorem gs_lt {c : Nat} (h : ∀ z, gs c = .inr (0, z) → z ≠ []) : c < gN := by
  rcases Nat.lt_or_ge c gN with q | q
  · exact q
  · exact absurd rfl (h [] (by unfold gs; rw [List.getD_eq_getElem?_getD, List.getElem?_eq_none (by exact q)]; rfl))
def gt : List Cond := lw_tbl.filter goodWord
theorem gt_in {w : Cond} (i : Nat) (h : tables_1[i]? = some w) (hg : goodWord w = true) : w ∈ gt := List.mem_filter.mpr ⟨List.mem_append_right _ (List.mem_of_getElem? h), hg⟩
theorem gt_1 {w : Cond} (i : Nat) (h : tables_1_1[i]? = some w) (hg : goodWord w = true) : w ∈ gt := List.mem_filter.mpr ⟨List.mem_append_right _ (List.mem_append_left _ (List.mem_of_getElem? h)), hg⟩
theorem gt_2 {w : Cond} (i : Nat) (h : tables_1_2[i]? = some w) (hg : goodWord w = true) : w ∈ gt := List.mem_filter.mpr ⟨List.mem_append_right _ (List.mem_append_right _ (List.mem_append_left _ (List.mem_of_getElem? h))), hg⟩
theorem gt_3 {w : Cond} (i : Nat) (h : tables_1_3[i]? = some w) (hg : goodWord w = true) : w ∈ gt := List.mem_filter.mpr ⟨List.mem_append_right _ (List.mem_append_right _ (List.mem_append_right _ (List.mem_append_left _ (List.mem_of_getElem? h)))), hg⟩
theorem gt_4 {w : Cond} (i : Nat) (h : tables_1_4[i]? = some w) (hg : goodWord w = true) : w ∈ gt := List.mem_filter.mpr ⟨List.mem_append_right _ (List.mem_append_right _ (List.mem_append_right _ (List.mem_append_right _ (List.mem_append_left _ (List.mem_of_getElem? h))))), hg⟩
theorem gt_5 {w : Cond} (i : Nat) (h : tables_1_5[i]? = some w) (hg : goodWord w = true) : w ∈ gt := List.mem_filter.mpr ⟨List.mem_append_right _ (List.mem_append_right _ (List.mem_append_right _ (List.mem_append_right _ (List.mem_append_right _ (List.mem_append_left _ (List.mem_of_getElem? h)))))), hg⟩
theorem gt_6 {w : Cond} (i : Nat) (h : tables_1_6[i]? = some w) (hg : goodWord w = true) : w ∈ gt := List.mem_filter.mpr ⟨List.mem_append_right _ (List.mem_append_right _ (List.mem_append_right _ (List.mem_append_right _ (List.mem_append_right _ (List.mem_append_right _ ((List.mem_of_getElem? h))))))), hg⟩
theorem gt_sel {q : MethodName × Nat} (h : q ∈ lw_privs) : Cond.selects q.1.cls q.1 q.1 ∈ gt := List.mem_filter.mpr ⟨List.mem_append_left _ (List.mem_map.mpr ⟨q, h, rfl⟩), rfl⟩
theorem gt_ins {ws : List Cond} (ps : List Nat) (h : ws = ps.filterMap (fun i => tables_1[i]?)) (hg : ws.all goodWord = true) : ∀ w ∈ ws, w ∈ gt := fun w hw => by
  have h1 := List.all_eq_true.mp hg w hw
  rw [h] at hw
  obtain ⟨i, -, hi⟩ := List.mem_filterMap.mp hw
  exact gt_in i hi h1
theorem gt_all : gt.all goodWord = true := List.all_eq_true.mpr (fun w h => (List.mem_filter.mp h).2)
abbrev Mt : Type := MethodName × ByteArray × Nat × Option FieldType
abbrev mX0_init : Mt := (yX0_init, cX0_init, 3, none)
abbrev mX0_changeFactor : Mt := (yX0_changeFactor, cX0_changeFactor, 3, some .int)
abbrev mX0_holds : Mt := (yX0_holds, cX0_holds, 8, some .boolean)
abbrev mX0_mostOf : Mt := (yX0_mostOf, cX0_mostOf, 4, some .int)
abbrev mX0_agreeingWith : Mt := (yX0_agreeingWith, cX0_agreeingWith, 6, some .int)
abbrev mX0_widestCircle : Mt := (yX0_widestCircle, cX0_widestCircle, 8, some .int)
abbrev mX0_meet : Mt := (yX0_meet, cX0_meet, 5, none)
abbrev mX0_spansAt : Mt := (yX0_spansAt, cX0_spansAt, 6, some .int)
abbrev mX0_reachOf : Mt := (yX0_reachOf, cX0_reachOf, 2, some .int)
abbrev mX1_init : Mt := (yX1_init, cX1_init, 1, none)
abbrev mX1_addHouse : Mt := (yX1_addHouse, cX1_addHouse, 2, some .int)
abbrev mX1_changeDoubt : Mt := (yX1_changeDoubt, cX1_changeDoubt, 4, some .int)
abbrev mX1_addReading : Mt := (yX1_addReading, cX1_addReading, 5, some .int)
abbrev mX1_readingsOf : Mt := (yX1_readingsOf, cX1_readingsOf, 5, some .int)
abbrev mX1_isKnown : Mt := (yX1_isKnown, cX1_isKnown, 4, some .boolean)
abbrev mX1_isKnownOf : Mt := (yX1_isKnownOf, cX1_isKnownOf, 3, some .boolean)
abbrev mX1_knownReadings : Mt := (yX1_knownReadings, cX1_knownReadings, 3, some .int)
abbrev mX1_squaredDoubt : Mt := (yX1_squaredDoubt, cX1_squaredDoubt, 2, some .int)
abbrev mX2_init : Mt := (yX2_init, cX2_init, 3, none)
abbrev mX2_reckonTo : Mt := (yX2_reckonTo, cX2_reckonTo, 5, none)
abbrev mX2_findNeighbours : Mt := (yX2_findNeighbours, cX2_findNeighbours, 4, none)
abbrev mX2_cheapestBeside : Mt := (yX2_cheapestBeside, cX2_cheapestBeside, 5, some .int)
abbrev mX2_costBy : Mt := (yX2_costBy, cX2_costBy, 4, none)
abbrev mX2_nextFrom : Mt := (yX2_nextFrom, cX2_nextFrom, 4, some .int)
abbrev mX3_init : Mt := (yX3_init, cX3_init, 3, none)
abbrev mX3_gather : Mt := (yX3_gather, cX3_gather, 4, none)
abbrev mX3_chance : Mt := (yX3_chance, cX3_chance, 5, some .int)
abbrev mX3_choices : Mt := (yX3_choices, cX3_choices, 5, some .long)
abbrev mX3_dealt : Mt := (yX3_dealt, cX3_dealt, 5, some .int)
abbrev mX4_init : Mt := (yX4_init, cX4_init, 1, none)
abbrev mX4_append : Mt := (yX4_append, cX4_append, 2, some .int)
abbrev mX4_firstFault : Mt := (yX4_firstFault, cX4_firstFault, 3, some .int)
abbrev mX4_faultOfPart : Mt := (yX4_faultOfPart, cX4_faultOfPart, 5, some .int)
abbrev mX4_nextNumber : Mt := (yX4_nextNumber, cX4_nextNumber, 3, some .int)
abbrev mX4_squareOfPart : Mt := (yX4_squareOfPart, cX4_squareOfPart, 3, some .long)
abbrev mX4_doubtOfSquare : Mt := (yX4_doubtOfSquare, cX4_doubtOfSquare, 2, some .int)
abbrev mX5_init : Mt := (yX5_init, cX5_init, 1, none)
abbrev mX5_become : Mt := (yX5_become, cX5_become, 7, none)
abbrev mX5_side : Mt := (yX5_side, cX5_side, 2, some .long)
abbrev mX5_greatestShared : Mt := (yX5_greatestShared, cX5_greatestShared, 11, some .long)
abbrev mX6_init : Mt := (yX6_init, cX6_init, 3, none)
abbrev mX6_reckonBy : Mt := (yX6_reckonBy, cX6_reckonBy, 3, some .boolean)
abbrev mX6_gather : Mt := (yX6_gather, cX6_gather, 3, none)
abbrev mX6_twiceMiddle : Mt := (yX6_twiceMiddle, cX6_twiceMiddle, 2, some .long)
abbrev mX6_byPairs : Mt := (yX6_byPairs, cX6_byPairs, 4, none)
abbrev mX6_byWeights : Mt := (yX6_byWeights, cX6_byWeights, 10, none)
abbrev mX6_bySteps : Mt := (yX6_bySteps, cX6_bySteps, 6, some .long)
abbrev mX6_clippedMean : Mt := (yX6_clippedMean, cX6_clippedMean, 8, some .long)
abbrev mX6_clippedSpread : Mt := (yX6_clippedSpread, cX6_clippedSpread, 6, some .long)
abbrev mX6_root : Mt := (yX6_root, cX6_root, 7, some .long)
abbrev mX6_markOf : Mt := (yX6_markOf, cX6_markOf, 5, some .int)
abbrev mX6_longestRun : Mt := (yX6_longestRun, cX6_longestRun, 7, some .int)
abbrev mX7_init : Mt := (yX7_init, cX7_init, 2, none)
abbrev mX7_takesPart : Mt := (yX7_takesPart, cX7_takesPart, 3, some .boolean)
abbrev mX7_takingPart : Mt := (yX7_takingPart, cX7_takingPart, 4, some .int)
abbrev mX7_renew : Mt := (yX7_renew, cX7_renew, 4, none)
abbrev mX7_findPoints : Mt := (yX7_findPoints, cX7_findPoints, 3, none)
abbrev mX7_addToPoint : Mt := (yX7_addToPoint, cX7_addToPoint, 6, none)
abbrev mX7_openPoint : Mt := (yX7_openPoint, cX7_openPoint, 5, none)
abbrev mX7_driftOn : Mt := (yX7_driftOn, cX7_driftOn, 6, some .int)
abbrev mX7_driftBetween : Mt := (yX7_driftBetween, cX7_driftBetween, 22, some .int)
abbrev mX8_init : Mt := (yX8_init, cX8_init, 3, none)
abbrev mX8_gather : Mt := (yX8_gather, cX8_gather, 5, none)
abbrev mX8_reckonWithin : Mt := (yX8_reckonWithin, cX8_reckonWithin, 5, some .boolean)
abbrev mX8_spread : Mt := (yX8_spread, cX8_spread, 4, some .long)
abbrev mX8_scaledWithin : Mt := (yX8_scaledWithin, cX8_scaledWithin, 4, some .long)
abbrev mX8_widestOf : Mt := (yX8_widestOf, cX8_widestOf, 8, some .int)
abbrev mX8_reckonShare : Mt := (yX8_reckonShare, cX8_reckonShare, 6, some .boolean)
abbrev mX8_likeMany : Mt := (yX8_likeMany, cX8_likeMany, 5, some .int)
abbrev mX8_reckonPart : Mt := (yX8_reckonPart, cX8_reckonPart, 15, some .boolean)
abbrev mX9_init : Mt := (yX9_init, cX9_init, 1, none)
abbrev mX9_find : Mt := (yX9_find, cX9_find, 2, some .int)
abbrev mX9_isLost : Mt := (yX9_isLost, cX9_isLost, 2, some .boolean)
abbrev mX9_make : Mt := (yX9_make, cX9_make, 4, some .int)
abbrev mX9_against : Mt := (yX9_against, cX9_against, 4, some .int)
abbrev mX9_holds : Mt := (yX9_holds, cX9_holds, 4, some .boolean)
abbrev mX9_store : Mt := (yX9_store, cX9_store, 5, none)
abbrev mX10_init : Mt := (yX10_init, cX10_init, 1, none)
abbrev mX10_pass : Mt := (yX10_pass, cX10_pass, 2, some .int)
abbrev mX10_house : Mt := (yX10_house, cX10_house, 2, some .int)
abbrev mX10_doubt : Mt := (yX10_doubt, cX10_doubt, 3, some .int)
abbrev mX10_reading : Mt := (yX10_reading, cX10_reading, 5, some .int)
abbrev mX10_read : Mt := (yX10_read, cX10_read, 6, some .int)
abbrev mX10_takeBack : Mt := (yX10_takeBack, cX10_takeBack, 2, some .int)
abbrev mX10_about : Mt := (yX10_about, cX10_about, 3, some .int)
abbrev mX10_asOf : Mt := (yX10_asOf, cX10_asOf, 4, some .int)
abbrev mX10_factor : Mt := (yX10_factor, cX10_factor, 2, some .int)
abbrev mX10_drift : Mt := (yX10_drift, cX10_drift, 3, some .int)
abbrev mX10_many : Mt := (yX10_many, cX10_many, 3, some .int)
abbrev mX10_told : Mt := (yX10_told, cX10_told, 3, some .int)
abbrev mX10_agree : Mt := (yX10_agree, cX10_agree, 4, some .int)
abbrev mX10_agreeing : Mt := (yX10_agreeing, cX10_agreeing, 2, some .int)
abbrev mX10_common : Mt := (yX10_common, cX10_common, 3, some .int)
abbrev mX10_chain : Mt := (yX10_chain, cX10_chain, 3, some .int)
abbrev mX10_via : Mt := (yX10_via, cX10_via, 3, some .int)
abbrev mX10_number : Mt := (yX10_number, cX10_number, 4, some .long)
abbrev mX10_mark : Mt := (yX10_mark, cX10_mark, 3, some .int)
abbrev mX10_judged : Mt := (yX10_judged, cX10_judged, 4, some .int)
abbrev mX10_run : Mt := (yX10_run, cX10_run, 2, some .int)
abbrev mX10_within : Mt := (yX10_within, cX10_within, 4, some .long)
abbrev mX10_widest : Mt := (yX10_widest, cX10_widest, 2, some .int)
abbrev mX10_share : Mt := (yX10_share, cX10_share, 3, some .long)
abbrev mX10_parts : Mt := (yX10_parts, cX10_parts, 4, some .long)
abbrev mX10_ways : Mt := (yX10_ways, cX10_ways, 3, some .int)
abbrev mX10_score : Mt := (yX10_score, cX10_score, 2, some .long)
abbrev mX10_type : Mt := (yX10_type, cX10_type, 2, some .int)
abbrev mX10_wipe : Mt := (yX10_wipe, cX10_wipe, 2, some .int)
abbrev mX10_fault : Mt := (yX10_fault, cX10_fault, 1, some .int)
abbrev mX10_reckon : Mt := (yX10_reckon, cX10_reckon, 1, some .int)
abbrev mX10_claim : Mt := (yX10_claim, cX10_claim, 2, some .int)
abbrev mX10_sheet : Mt := (yX10_sheet, cX10_sheet, 4, some .int)
abbrev mX10_lose : Mt := (yX10_lose, cX10_lose, 2, some .int)
abbrev mX10_put : Mt := (yX10_put, cX10_put, 6, some .int)
abbrev mX10_get : Mt := (yX10_get, cX10_get, 5, some .int)
abbrev mX10_copy : Mt := (yX10_copy, cX10_copy, 6, some .int)
abbrev mX10_write : Mt := (yX10_write, cX10_write, 5, some .int)
abbrev mX10_count : Mt := (yX10_count, cX10_count, 2, some .int)
abbrev mX10_digest : Mt := (yX10_digest, cX10_digest, 5, some .long)
abbrev mX10_digestPiece : Mt := (yX10_digestPiece, cX10_digestPiece, 8, some .long)
abbrev mX10_tell : Mt := (yX10_tell, cX10_tell, 6, some .int)
abbrev mX10_noHouse : Mt := (yX10_noHouse, cX10_noHouse, 2, some .boolean)
abbrev mX10_noReading : Mt := (yX10_noReading, cX10_noReading, 2, some .boolean)
abbrev mX10_noPiece : Mt := (yX10_noPiece, cX10_noPiece, 1, some .boolean)
abbrev mX10_noSheet : Mt := (yX10_noSheet, cX10_noSheet, 1, some .boolean)
abbrev mX10_noType : Mt := (yX10_noType, cX10_noType, 1, some .boolean)
abbrev mX10_refusal : Mt := (yX10_refusal, cX10_refusal, 1, some .long)
abbrev mX10_nearest : Mt := (yX10_nearest, cX10_nearest, 4, some .long)
abbrev mX10_putInOrder : Mt := (yX10_putInOrder, cX10_putInOrder, 5, none)
abbrev mX11_init : Mt := (yX11_init, cX11_init, 1, none)
abbrev mX11_in : Mt := (yX11_in, cX11_in, 3, some .boolean)
abbrev mX11_amount : Mt := (yX11_amount, cX11_amount, 2, some .long)
abbrev mX11_down : Mt := (yX11_down, cX11_down, 6, some .long)
abbrev mX11_near : Mt := (yX11_near, cX11_near, 4, some .long)
abbrev mX11_divisor : Mt := (yX11_divisor, cX11_divisor, 10, some .long)
abbrev mX11_lowest : Mt := (yX11_lowest, cX11_lowest, 7, some .long)
abbrev mX11_isHouse : Mt := (yX11_isHouse, cX11_isHouse, 2, some .boolean)
abbrev mX11_isPiece : Mt := (yX11_isPiece, cX11_isPiece, 1, some .boolean)
abbrev mX11_isKnown : Mt := (yX11_isKnown, cX11_isKnown, 3, some .boolean)
abbrev mX11_pass : Mt := (yX11_pass, cX11_pass, 2, some .int)
abbrev mX11_house : Mt := (yX11_house, cX11_house, 2, some .int)
abbrev mX11_doubt : Mt := (yX11_doubt, cX11_doubt, 4, some .int)
abbrev mX11_readingMore : Mt := (yX11_readingMore, cX11_readingMore, 7, some .int)
abbrev mX11_reading : Mt := (yX11_reading, cX11_reading, 5, some .int)
abbrev mX11_read : Mt := (yX11_read, cX11_read, 4, some .int)
abbrev mX11_takeBack : Mt := (yX11_takeBack, cX11_takeBack, 2, some .int)
abbrev mX11_about : Mt := (yX11_about, cX11_about, 3, some .int)
abbrev mX11_asOf : Mt := (yX11_asOf, cX11_asOf, 3, some .int)
abbrev mX11_factor : Mt := (yX11_factor, cX11_factor, 3, some .int)
abbrev mX11_points : Mt := (yX11_points, cX11_points, 9, none)
abbrev mX11_driftOf : Mt := (yX11_driftOf, cX11_driftOf, 18, some .int)
abbrev mX11_works : Mt := (yX11_works, cX11_works, 3, none)
abbrev mX11_reducedOf : Mt := (yX11_reducedOf, cX11_reducedOf, 2, some .long)
abbrev mX11_drift : Mt := (yX11_drift, cX11_drift, 3, some .int)
abbrev mX11_takes : Mt := (yX11_takes, cX11_takes, 3, some .boolean)
abbrev mX11_many : Mt := (yX11_many, cX11_many, 3, some .int)
abbrev mX11_toldOf : Mt := (yX11_toldOf, cX11_toldOf, 3, some .long)
abbrev mX11_toldOrNot : Mt := (yX11_toldOrNot, cX11_toldOrNot, 3, some .int)
abbrev mX11_told : Mt := (yX11_told, cX11_told, 3, some .int)
abbrev mX11_square : Mt := (yX11_square, cX11_square, 2, some .long)
abbrev mX11_doAgree : Mt := (yX11_doAgree, cX11_doAgree, 6, some .boolean)
abbrev mX11_agree : Mt := (yX11_agree, cX11_agree, 4, some .int)
abbrev mX11_ones : Mt := (yX11_ones, cX11_ones, 3, some .int)
abbrev mX11_agreeingOf : Mt := (yX11_agreeingOf, cX11_agreeingOf, 7, some .int)
abbrev mX11_agreeing : Mt := (yX11_agreeing, cX11_agreeing, 2, some .int)
abbrev mX11_commonOf : Mt := (yX11_commonOf, cX11_commonOf, 8, some .int)
abbrev mX11_common : Mt := (yX11_common, cX11_common, 4, some .int)
abbrev mX11_together : Mt := (yX11_together, cX11_together, 4, some .boolean)
abbrev mX11_costs : Mt := (yX11_costs, cX11_costs, 8, none)
abbrev mX11_areTwo : Mt := (yX11_areTwo, cX11_areTwo, 3, some .boolean)
abbrev mX11_chain : Mt := (yX11_chain, cX11_chain, 3, some .int)
abbrev mX11_via : Mt := (yX11_via, cX11_via, 4, some .int)
abbrev mX11_add : Mt := (yX11_add, cX11_add, 4, none)
abbrev mX11_middle : Mt := (yX11_middle, cX11_middle, 2, none)
abbrev mX11_rowOf : Mt := (yX11_rowOf, cX11_rowOf, 3, none)
abbrev mX11_pairsOf : Mt := (yX11_pairsOf, cX11_pairsOf, 4, none)
abbrev mX11_weighted : Mt := (yX11_weighted, cX11_weighted, 5, none)
abbrev mX11_root : Mt := (yX11_root, cX11_root, 8, some .long)
abbrev mX11_steps : Mt := (yX11_steps, cX11_steps, 18, none)
abbrev mX11_clipped : Mt := (yX11_clipped, cX11_clipped, 6, some .long)
abbrev mX11_finds : Mt := (yX11_finds, cX11_finds, 3, some .boolean)
abbrev mX11_number : Mt := (yX11_number, cX11_number, 4, some .long)
abbrev mX11_markOf : Mt := (yX11_markOf, cX11_markOf, 3, some .int)
abbrev mX11_mark : Mt := (yX11_mark, cX11_mark, 3, some .int)
abbrev mX11_judged : Mt := (yX11_judged, cX11_judged, 5, some .int)
abbrev mX11_run : Mt := (yX11_run, cX11_run, 8, some .int)
abbrev mX11_repeats : Mt := (yX11_repeats, cX11_repeats, 6, none)
abbrev mX11_withinTop : Mt := (yX11_withinTop, cX11_withinTop, 3, some .long)
abbrev mX11_withinBottom : Mt := (yX11_withinBottom, cX11_withinBottom, 5, some .long)
abbrev mX11_isRepeat : Mt := (yX11_isRepeat, cX11_isRepeat, 3, some .boolean)
abbrev mX11_within : Mt := (yX11_within, cX11_within, 4, some .long)
abbrev mX11_widestOf : Mt := (yX11_widestOf, cX11_widestOf, 5, some .int)
abbrev mX11_widest : Mt := (yX11_widest, cX11_widest, 2, some .int)
abbrev mX11_share : Mt := (yX11_share, cX11_share, 7, some .long)
abbrev mX11_parts : Mt := (yX11_parts, cX11_parts, 18, some .long)
abbrev mX11_wayMany : Mt := (yX11_wayMany, cX11_wayMany, 5, some .int)
abbrev mX11_scoreOf : Mt := (yX11_scoreOf, cX11_scoreOf, 5, some .long)
abbrev mX11_score : Mt := (yX11_score, cX11_score, 2, some .long)
abbrev mX11_chanceOf : Mt := (yX11_chanceOf, cX11_chanceOf, 13, some .int)
abbrev mX11_ways : Mt := (yX11_ways, cX11_ways, 5, some .int)
abbrev mX11_type : Mt := (yX11_type, cX11_type, 2, some .int)
abbrev mX11_wipe : Mt := (yX11_wipe, cX11_wipe, 2, some .int)
abbrev mX11_byteAt : Mt := (yX11_byteAt, cX11_byteAt, 2, some .int)
abbrev mX11_figures : Mt := (yX11_figures, cX11_figures, 3, some .int)
abbrev mX11_part : Mt := (yX11_part, cX11_part, 7, none)
abbrev mX11_faultNow : Mt := (yX11_faultNow, cX11_faultNow, 1, some .int)
abbrev mX11_fault : Mt := (yX11_fault, cX11_fault, 1, some .int)
abbrev mX11_reckons : Mt := (yX11_reckons, cX11_reckons, 2, some .int)
abbrev mX11_reckon : Mt := (yX11_reckon, cX11_reckon, 2, some .int)
abbrev mX11_claim : Mt := (yX11_claim, cX11_claim, 4, some .int)
abbrev mX11_meets : Mt := (yX11_meets, cX11_meets, 2, some .int)
abbrev mX11_isSheet : Mt := (yX11_isSheet, cX11_isSheet, 1, some .boolean)
abbrev mX11_sheet : Mt := (yX11_sheet, cX11_sheet, 5, some .int)
abbrev mX11_lose : Mt := (yX11_lose, cX11_lose, 2, some .int)
abbrev mX11_lacks : Mt := (yX11_lacks, cX11_lacks, 4, some .int)
abbrev mX11_lay : Mt := (yX11_lay, cX11_lay, 4, none)
abbrev mX11_put : Mt := (yX11_put, cX11_put, 6, some .int)
abbrev mX11_get : Mt := (yX11_get, cX11_get, 5, some .int)
abbrev mX11_copy : Mt := (yX11_copy, cX11_copy, 7, some .int)
abbrev mX11_write : Mt := (yX11_write, cX11_write, 4, some .int)
abbrev mX11_knownMany : Mt := (yX11_knownMany, cX11_knownMany, 3, some .int)
abbrev mX11_count : Mt := (yX11_count, cX11_count, 2, some .int)
abbrev mX11_digest : Mt := (yX11_digest, cX11_digest, 6, some .long)
abbrev mJ6_bitCount_0f7a4 : Mt := (yJ6_bitCount_0f7a4, cJ6_bitCount_0f7a4, 1, some .int)
abbrev mJ6_signum_0f7a4 : Mt := (yJ6_signum_0f7a4, cJ6_signum_0f7a4, 1, some .int)
abbrev mJ9_floorDiv_f86c9 : Mt := (yJ9_floorDiv_f86c9, cJ9_floorDiv_f86c9, 6, some .long)
abbrev mJ9_abs_0f7a4 : Mt := (yJ9_abs_0f7a4, cJ9_abs_0f7a4, 1, some .int)
abbrev mJ9_abs_067f4 : Mt := (yJ9_abs_067f4, cJ9_abs_067f4, 2, some .long)
abbrev mJ9_max_7cf53 : Mt := (yJ9_max_7cf53, cJ9_max_7cf53, 2, some .int)
abbrev mJ9_max_f86c9 : Mt := (yJ9_max_f86c9, cJ9_max_f86c9, 4, some .long)
abbrev mJ9_min_7cf53 : Mt := (yJ9_min_7cf53, cJ9_min_7cf53, 2, some .int)
abbrev mJ9_min_f86c9 : Mt := (yJ9_min_f86c9, cJ9_min_f86c9, 4, some .long)
abbrev mJ7_fill_d0a16 : Mt := (yJ7_fill_d0a16, cJ7_fill_d0a16, 5, none)
abbrev mJ7_fill_53178 : Mt := (yJ7_fill_53178, cJ7_fill_53178, 4, none)
theorem inG_X0 : ∀ w ∈ u_ws RX0 TX0 6, w ∈ gt := gt_ins [154, 156, 158, 160, 162, 164] (by decide +kernel) (by decide +kernel)
theorem inG_X1 : ∀ w ∈ u_ws RX1 TX1 12, w ∈ gt := gt_ins [69, 71, 73, 75, 77, 79, 81, 83, 85, 87, 89, 91] (by decide +kernel) (by decide +kernel)
theorem inG_X2 : ∀ w ∈ u_ws RX2 TX2 4, w ∈ gt := gt_ins [178, 180, 182, 184] (by decide +kernel) (by decide +kernel)
theorem inG_X3 : ∀ w ∈ u_ws RX3 TX3 6, w ∈ gt := gt_ins [273, 275, 277, 279, 281, 283] (by decide +kernel) (by decide +kernel)
theorem inG_X4 : ∀ w ∈ u_ws RX4 TX4 5, w ∈ gt := gt_ins [300, 302, 304, 306, 308] (by decide +kernel) (by decide +kernel)
theorem inG_X5 : ∀ w ∈ u_ws RX5 TX5 2, w ∈ gt := gt_ins [205, 207] (by decide +kernel) (by decide +kernel)
theorem inG_X6 : ∀ w ∈ u_ws RX6 TX6 7, w ∈ gt := gt_ins [218, 220, 222, 224, 226, 228, 230] (by decide +kernel) (by decide +kernel)
theorem inG_X7 : ∀ w ∈ u_ws RX7 TX7 9, w ∈ gt := gt_ins [119, 121, 123, 125, 127, 129, 131, 133, 135] (by decide +kernel) (by decide +kernel)
theorem inG_X8 : ∀ w ∈ u_ws RX8 TX8 5, w ∈ gt := gt_ins [247, 249, 251, 253, 255] (by decide +kernel) (by decide +kernel)
theorem inG_X9 : ∀ w ∈ u_ws RX9 TX9 4, w ∈ gt := gt_ins [329, 331, 333, 335] (by decide +kernel) (by decide +kernel)
theorem inG_X10 : ∀ w ∈ u_ws RX10 TX10 9, w ∈ gt := gt_ins [347, 349, 351, 353, 355, 357, 359, 361, 363] (by decide +kernel) (by decide +kernel)
theorem inG_X11 : ∀ w ∈ u_ws RX11 TX11 42, w ∈ gt := gt_ins [968, 970, 972, 974, 976, 978, 980, 982, 984, 986, 988, 990, 992, 994, 996, 998, 1000, 1002, 1004, 1006, 1008, 1010, 1012, 1014, 1016, 1018, 1020, 1022, 1024, 1026, 1028, 1030, 1032, 1034, 1036, 1038, 1040, 1042, 1044, 1046, 1048, 1050] (by decide +kernel) (by decide +kernel)
/-- a field's link: own class, pool entry, class number, place -/
def fldOk (own : String) (idx ci k : Nat) : Prop := ∃ q : vw_C, vwCl[ci]? = some q ∧ k < q.2.2 ∧ Cond.fieldLink own idx (q.2.1 k).1 (q.2.1 k).2.1 (q.2.1 k).2.2.1 ∈ gt ∧ ∀ w ∈ u_ws q.1 q.2.1 q.2.2, w ∈ gt
def putOk (ci k : Nat) (ty : FieldType) : Prop := ∃ (q : vw_C) (ty0 : Nat → FieldType), vwCl[ci]? = some q ∧ (∀ k, k < q.2.2 → parseFieldDescriptor (q.2.1 k).2.2.1 = some (ty0 k)) ∧ (∀ a, a < q.2.2 → ∀ b, b < q.2.2 → a ≠ b → (q.2.1 a).2.1 ≠ (q.2.1 b).2.1) ∧ (q.2.1 k).2.2.2 = false ∧ parseFieldDescriptor (q.2.1 k).2.2.1 = some ty
set_option maxRecDepth 100000 in
theorem fl_X10_78 : fldOk RX10 78 1 0 := ⟨_, rfl, by decide, gt_1 31 rfl rfl, inG_X1⟩
set_option maxRecDepth 100000 in
theorem fl_X1_46 : fldOk RX1 46 1 0 := ⟨_, rfl, by decide, gt_1 32 rfl rfl, inG_X1⟩
set_option maxRecDepth 100000 in
theorem fl_X1_9 : fldOk RX1 9 1 1 := ⟨_, rfl, by decide, gt_1 33 rfl rfl, inG_X1⟩
set_option maxRecDepth 100000 in
theorem fl_X10_146 : fldOk RX10 146 1 1 := ⟨_, rfl, by decide, gt_1 34 rfl rfl, inG_X1⟩
set_option maxRecDepth 100000 in
theorem fl_X1_40 : fldOk RX1 40 1 2 := ⟨_, rfl, by decide, gt_1 35 rfl rfl, inG_X1⟩
set_option maxRecDepth 100000 in
theorem fl_X3_40 : fldOk RX3 40 1 2 := ⟨_, rfl, by decide, gt_1 36 rfl rfl, inG_X1⟩
set_option maxRecDepth 100000 in
theorem fl_X2_41 : fldOk RX2 41 1 2 := ⟨_, rfl, by decide, gt_1 37 rfl rfl, inG_X1⟩
set_option maxRecDepth 100000 in
theorem fl_X7_43 : fldOk RX7 43 1 2 := ⟨_, rfl, by decide, gt_1 38 rfl rfl, inG_X1⟩
set_option maxRecDepth 100000 in
theorem fl_X6_64 : fldOk RX6 64 1 2 := ⟨_, rfl, by decide, gt_1 39 rfl rfl, inG_X1⟩
set_option maxRecDepth 100000 in
theorem fl_X10_82 : fldOk RX10 82 1 2 := ⟨_, rfl, by decide, gt_1 40 rfl rfl, inG_X1⟩
set_option maxRecDepth 100000 in
theorem fl_X0_44 : fldOk RX0 44 1 2 := ⟨_, rfl, by decide, gt_1 41 rfl rfl, inG_X1⟩
set_option maxRecDepth 100000 in
theorem fl_X8_84 : fldOk RX8 84 1 2 := ⟨_, rfl, by decide, gt_1 42 rfl rfl, inG_X1⟩
set_option maxRecDepth 100000 in
theorem fl_X1_15 : fldOk RX1 15 1 3 := ⟨_, rfl, by decide, gt_1 43 rfl rfl, inG_X1⟩
set_option maxRecDepth 100000 in
theorem fl_X3_53 : fldOk RX3 53 1 3 := ⟨_, rfl, by decide, gt_1 44 rfl rfl, inG_X1⟩
set_option maxRecDepth 100000 in
theorem fl_X1_19 : fldOk RX1 19 1 4 := ⟨_, rfl, by decide, gt_1 45 rfl rfl, inG_X1⟩
set_option maxRecDepth 100000 in
theorem fl_X0_86 : fldOk RX0 86 1 4 := ⟨_, rfl, by decide, gt_1 46 rfl rfl, inG_X1⟩
set_option maxRecDepth 100000 in
theorem fl_X6_126 : fldOk RX6 126 1 4 := ⟨_, rfl, by decide, gt_1 47 rfl rfl, inG_X1⟩
set_option maxRecDepth 100000 in
theorem fl_X10_319 : fldOk RX10 319 1 4 := ⟨_, rfl, by decide, gt_1 48 rfl rfl, inG_X1⟩
set_option maxRecDepth 100000 in
theorem fl_X8_39 : fldOk RX8 39 1 5 := ⟨_, rfl, by decide, gt_1 49 rfl rfl, inG_X1⟩
set_option maxRecDepth 100000 in
theorem fl_X1_43 : fldOk RX1 43 1 5 := ⟨_, rfl, by decide, gt_1 50 rfl rfl, inG_X1⟩
set_option maxRecDepth 100000 in
theorem fl_X7_66 : fldOk RX7 66 1 5 := ⟨_, rfl, by decide, gt_1 51 rfl rfl, inG_X1⟩
set_option maxRecDepth 100000 in
theorem fl_X10_294 : fldOk RX10 294 1 5 := ⟨_, rfl, by decide, gt_1 52 rfl rfl, inG_X1⟩
set_option maxRecDepth 100000 in
theorem fl_X1_22 : fldOk RX1 22 1 6 := ⟨_, rfl, by decide, gt_1 53 rfl rfl, inG_X1⟩
set_option maxRecDepth 100000 in
theorem fl_X8_61 : fldOk RX8 61 1 6 := ⟨_, rfl, by decide, gt_1 54 rfl rfl, inG_X1⟩
set_option maxRecDepth 100000 in
theorem fl_X7_82 : fldOk RX7 82 1 6 := ⟨_, rfl, by decide, gt_1 55 rfl rfl, inG_X1⟩
set_option maxRecDepth 100000 in
theorem fl_X10_131 : fldOk RX10 131 1 6 := ⟨_, rfl, by decide, gt_1 56 rfl rfl, inG_X1⟩
set_option maxRecDepth 100000 in
theorem fl_X1_25 : fldOk RX1 25 1 7 := ⟨_, rfl, by decide, gt_1 57 rfl rfl, inG_X1⟩
set_option maxRecDepth 100000 in
theorem fl_X10_124 : fldOk RX10 124 1 7 := ⟨_, rfl, by decide, gt_1 58 rfl rfl, inG_X1⟩
set_option maxRecDepth 100000 in
theorem fl_X1_28 : fldOk RX1 28 1 8 := ⟨_, rfl, by decide, gt_1 59 rfl rfl, inG_X1⟩
set_option maxRecDepth 100000 in
theorem fl_X7_75 : fldOk RX7 75 1 8 := ⟨_, rfl, by decide, gt_1 60 rfl rfl, inG_X1⟩
set_option maxRecDepth 100000 in
theorem fl_X10_134 : fldOk RX10 134 1 8 := ⟨_, rfl, by decide, gt_1 61 rfl rfl, inG_X1⟩
set_option maxRecDepth 100000 in
theorem fl_X1_31 : fldOk RX1 31 1 9 := ⟨_, rfl, by decide, gt_1 62 rfl rfl, inG_X1⟩
set_option maxRecDepth 100000 in
theorem fl_X7_72 : fldOk RX7 72 1 9 := ⟨_, rfl, by decide, gt_1 63 rfl rfl, inG_X1⟩
set_option maxRecDepth 100000 in
theorem fl_X10_137 : fldOk RX10 137 1 9 := ⟨_, rfl, by decide, gt_1 64 rfl rfl, inG_X1⟩
set_option maxRecDepth 100000 in
theorem fl_X1_34 : fldOk RX1 34 1 10 := ⟨_, rfl, by decide, gt_1 65 rfl rfl, inG_X1⟩
set_option maxRecDepth 100000 in
theorem fl_X10_140 : fldOk RX10 140 1 10 := ⟨_, rfl, by decide, gt_1 66 rfl rfl, inG_X1⟩
set_option maxRecDepth 100000 in
theorem fl_X1_37 : fldOk RX1 37 1 11 := ⟨_, rfl, by decide, gt_1 67 rfl rfl, inG_X1⟩
set_option maxRecDepth 100000 in
theorem fl_X10_121 : fldOk RX10 121 1 11 := ⟨_, rfl, by decide, gt_1 68 rfl rfl, inG_X1⟩
set_option maxRecDepth 100000 in
theorem fl_X7_39 : fldOk RX7 39 7 0 := ⟨_, rfl, by decide, gt_1 103 rfl rfl, inG_X7⟩
set_option maxRecDepth 100000 in
theorem fl_X7_9 : fldOk RX7 9 7 1 := ⟨_, rfl, by decide, gt_1 104 rfl rfl, inG_X7⟩
set_option maxRecDepth 100000 in
theorem fl_X7_17 : fldOk RX7 17 7 2 := ⟨_, rfl, by decide, gt_1 105 rfl rfl, inG_X7⟩
set_option maxRecDepth 100000 in
theorem fl_X7_20 : fldOk RX7 20 7 3 := ⟨_, rfl, by decide, gt_1 106 rfl rfl, inG_X7⟩
set_option maxRecDepth 100000 in
theorem fl_X7_23 : fldOk RX7 23 7 4 := ⟨_, rfl, by decide, gt_1 107 rfl rfl, inG_X7⟩
set_option maxRecDepth 100000 in
theorem fl_X7_26 : fldOk RX7 26 7 5 := ⟨_, rfl, by decide, gt_1 108 rfl rfl, inG_X7⟩
set_option maxRecDepth 100000 in
theorem fl_X7_30 : fldOk RX7 30 7 6 := ⟨_, rfl, by decide, gt_1 109 rfl rfl, inG_X7⟩
set_option maxRecDepth 100000 in
theorem fl_X8_49 : fldOk RX8 49 7 6 := ⟨_, rfl, by decide, gt_1 110 rfl rfl, inG_X7⟩
set_option maxRecDepth 100000 in
theorem fl_X7_33 : fldOk RX7 33 7 7 := ⟨_, rfl, by decide, gt_1 111 rfl rfl, inG_X7⟩
set_option maxRecDepth 100000 in
theorem fl_X8_64 : fldOk RX8 64 7 7 := ⟨_, rfl, by decide, gt_1 112 rfl rfl, inG_X7⟩
set_option maxRecDepth 100000 in
theorem fl_X10_159 : fldOk RX10 159 7 7 := ⟨_, rfl, by decide, gt_1 113 rfl rfl, inG_X7⟩
set_option maxRecDepth 100000 in
theorem fl_X7_36 : fldOk RX7 36 7 8 := ⟨_, rfl, by decide, gt_1 114 rfl rfl, inG_X7⟩
set_option maxRecDepth 100000 in
theorem fl_X3_49 : fldOk RX3 49 7 8 := ⟨_, rfl, by decide, gt_1 115 rfl rfl, inG_X7⟩
set_option maxRecDepth 100000 in
theorem fl_X0_27 : fldOk RX0 27 7 8 := ⟨_, rfl, by decide, gt_1 116 rfl rfl, inG_X7⟩
set_option maxRecDepth 100000 in
theorem fl_X6_75 : fldOk RX6 75 7 8 := ⟨_, rfl, by decide, gt_1 117 rfl rfl, inG_X7⟩
set_option maxRecDepth 100000 in
theorem fl_X10_166 : fldOk RX10 166 7 8 := ⟨_, rfl, by decide, gt_1 118 rfl rfl, inG_X7⟩
set_option maxRecDepth 100000 in
theorem fl_X0_19 : fldOk RX0 19 0 0 := ⟨_, rfl, by decide, gt_1 145 rfl rfl, inG_X0⟩
set_option maxRecDepth 100000 in
theorem fl_X0_23 : fldOk RX0 23 0 1 := ⟨_, rfl, by decide, gt_1 146 rfl rfl, inG_X0⟩
set_option maxRecDepth 100000 in
theorem fl_X0_9 : fldOk RX0 9 0 2 := ⟨_, rfl, by decide, gt_1 147 rfl rfl, inG_X0⟩
set_option maxRecDepth 100000 in
theorem fl_X0_15 : fldOk RX0 15 0 3 := ⟨_, rfl, by decide, gt_1 148 rfl rfl, inG_X0⟩
set_option maxRecDepth 100000 in
theorem fl_X10_309 : fldOk RX10 309 0 3 := ⟨_, rfl, by decide, gt_1 149 rfl rfl, inG_X0⟩
set_option maxRecDepth 100000 in
theorem fl_X0_64 : fldOk RX0 64 0 4 := ⟨_, rfl, by decide, gt_1 150 rfl rfl, inG_X0⟩
set_option maxRecDepth 100000 in
theorem fl_X10_180 : fldOk RX10 180 0 4 := ⟨_, rfl, by decide, gt_1 151 rfl rfl, inG_X0⟩
set_option maxRecDepth 100000 in
theorem fl_X0_67 : fldOk RX0 67 0 5 := ⟨_, rfl, by decide, gt_1 152 rfl rfl, inG_X0⟩
set_option maxRecDepth 100000 in
theorem fl_X10_183 : fldOk RX10 183 0 5 := ⟨_, rfl, by decide, gt_1 153 rfl rfl, inG_X0⟩
set_option maxRecDepth 100000 in
theorem fl_X2_18 : fldOk RX2 18 2 0 := ⟨_, rfl, by decide, gt_1 173 rfl rfl, inG_X2⟩
set_option maxRecDepth 100000 in
theorem fl_X2_22 : fldOk RX2 22 2 1 := ⟨_, rfl, by decide, gt_1 174 rfl rfl, inG_X2⟩
set_option maxRecDepth 100000 in
theorem fl_X2_9 : fldOk RX2 9 2 2 := ⟨_, rfl, by decide, gt_1 175 rfl rfl, inG_X2⟩
set_option maxRecDepth 100000 in
theorem fl_X2_15 : fldOk RX2 15 2 3 := ⟨_, rfl, by decide, gt_1 176 rfl rfl, inG_X2⟩
set_option maxRecDepth 100000 in
theorem fl_X10_189 : fldOk RX10 189 2 3 := ⟨_, rfl, by decide, gt_1 177 rfl rfl, inG_X2⟩
set_option maxRecDepth 100000 in
theorem fl_X5_23 : fldOk RX5 23 5 0 := ⟨_, rfl, by decide, gt_1 199 rfl rfl, inG_X5⟩
set_option maxRecDepth 100000 in
theorem fl_X4_48 : fldOk RX4 48 5 0 := ⟨_, rfl, by decide, gt_1 200 rfl rfl, inG_X5⟩
set_option maxRecDepth 100000 in
theorem fl_X10_338 : fldOk RX10 338 5 0 := ⟨_, rfl, by decide, gt_1 201 rfl rfl, inG_X5⟩
set_option maxRecDepth 100000 in
theorem fl_X5_7 : fldOk RX5 7 5 1 := ⟨_, rfl, by decide, gt_1 202 rfl rfl, inG_X5⟩
set_option maxRecDepth 100000 in
theorem fl_X4_51 : fldOk RX4 51 5 1 := ⟨_, rfl, by decide, gt_1 203 rfl rfl, inG_X5⟩
set_option maxRecDepth 100000 in
theorem fl_X10_343 : fldOk RX10 343 5 1 := ⟨_, rfl, by decide, gt_1 204 rfl rfl, inG_X5⟩
set_option maxRecDepth 100000 in
theorem fl_X6_28 : fldOk RX6 28 6 0 := ⟨_, rfl, by decide, gt_1 210 rfl rfl, inG_X6⟩
set_option maxRecDepth 100000 in
theorem fl_X6_32 : fldOk RX6 32 6 1 := ⟨_, rfl, by decide, gt_1 211 rfl rfl, inG_X6⟩
set_option maxRecDepth 100000 in
theorem fl_X6_9 : fldOk RX6 9 6 2 := ⟨_, rfl, by decide, gt_1 212 rfl rfl, inG_X6⟩
set_option maxRecDepth 100000 in
theorem fl_X6_15 : fldOk RX6 15 6 3 := ⟨_, rfl, by decide, gt_1 213 rfl rfl, inG_X6⟩
set_option maxRecDepth 100000 in
theorem fl_X6_18 : fldOk RX6 18 6 4 := ⟨_, rfl, by decide, gt_1 214 rfl rfl, inG_X6⟩
set_option maxRecDepth 100000 in
theorem fl_X6_40 : fldOk RX6 40 6 5 := ⟨_, rfl, by decide, gt_1 215 rfl rfl, inG_X6⟩
set_option maxRecDepth 100000 in
theorem fl_X6_24 : fldOk RX6 24 6 6 := ⟨_, rfl, by decide, gt_1 216 rfl rfl, inG_X6⟩
set_option maxRecDepth 100000 in
theorem fl_X10_202 : fldOk RX10 202 6 6 := ⟨_, rfl, by decide, gt_1 217 rfl rfl, inG_X6⟩
set_option maxRecDepth 100000 in
theorem fl_X8_25 : fldOk RX8 25 8 0 := ⟨_, rfl, by decide, gt_2 1 rfl rfl, inG_X8⟩
set_option maxRecDepth 100000 in
theorem fl_X8_29 : fldOk RX8 29 8 1 := ⟨_, rfl, by decide, gt_2 2 rfl rfl, inG_X8⟩
set_option maxRecDepth 100000 in
theorem fl_X8_9 : fldOk RX8 9 8 2 := ⟨_, rfl, by decide, gt_2 3 rfl rfl, inG_X8⟩
set_option maxRecDepth 100000 in
theorem fl_X8_15 : fldOk RX8 15 8 3 := ⟨_, rfl, by decide, gt_2 4 rfl rfl, inG_X8⟩
set_option maxRecDepth 100000 in
theorem fl_X8_21 : fldOk RX8 21 8 4 := ⟨_, rfl, by decide, gt_2 5 rfl rfl, inG_X8⟩
set_option maxRecDepth 100000 in
theorem fl_X10_225 : fldOk RX10 225 8 4 := ⟨_, rfl, by decide, gt_2 6 rfl rfl, inG_X8⟩
set_option maxRecDepth 100000 in
theorem fl_X3_18 : fldOk RX3 18 3 0 := ⟨_, rfl, by decide, gt_2 24 rfl rfl, inG_X3⟩
set_option maxRecDepth 100000 in
theorem fl_X3_22 : fldOk RX3 22 3 1 := ⟨_, rfl, by decide, gt_2 25 rfl rfl, inG_X3⟩
set_option maxRecDepth 100000 in
theorem fl_X3_9 : fldOk RX3 9 3 2 := ⟨_, rfl, by decide, gt_2 26 rfl rfl, inG_X3⟩
set_option maxRecDepth 100000 in
theorem fl_X3_15 : fldOk RX3 15 3 3 := ⟨_, rfl, by decide, gt_2 27 rfl rfl, inG_X3⟩
set_option maxRecDepth 100000 in
theorem fl_X10_239 : fldOk RX10 239 3 3 := ⟨_, rfl, by decide, gt_2 28 rfl rfl, inG_X3⟩
set_option maxRecDepth 100000 in
theorem fl_X3_32 : fldOk RX3 32 3 4 := ⟨_, rfl, by decide, gt_2 29 rfl rfl, inG_X3⟩
set_option maxRecDepth 100000 in
theorem fl_X10_242 : fldOk RX10 242 3 4 := ⟨_, rfl, by decide, gt_2 30 rfl rfl, inG_X3⟩
set_option maxRecDepth 100000 in
theorem fl_X3_36 : fldOk RX3 36 3 5 := ⟨_, rfl, by decide, gt_2 31 rfl rfl, inG_X3⟩
set_option maxRecDepth 100000 in
theorem fl_X10_251 : fldOk RX10 251 3 5 := ⟨_, rfl, by decide, gt_2 32 rfl rfl, inG_X3⟩
set_option maxRecDepth 100000 in
theorem fl_X4_9 : fldOk RX4 9 4 0 := ⟨_, rfl, by decide, gt_2 54 rfl rfl, inG_X4⟩
set_option maxRecDepth 100000 in
theorem fl_X4_18 : fldOk RX4 18 4 1 := ⟨_, rfl, by decide, gt_2 55 rfl rfl, inG_X4⟩
set_option maxRecDepth 100000 in
theorem fl_X4_26 : fldOk RX4 26 4 2 := ⟨_, rfl, by decide, gt_2 56 rfl rfl, inG_X4⟩
set_option maxRecDepth 100000 in
theorem fl_X4_29 : fldOk RX4 29 4 3 := ⟨_, rfl, by decide, gt_2 57 rfl rfl, inG_X4⟩
set_option maxRecDepth 100000 in
theorem fl_X4_22 : fldOk RX4 22 4 4 := ⟨_, rfl, by decide, gt_2 58 rfl rfl, inG_X4⟩
set_option maxRecDepth 100000 in
theorem fl_X10_255 : fldOk RX10 255 4 4 := ⟨_, rfl, by decide, gt_2 59 rfl rfl, inG_X4⟩
set_option maxRecDepth 100000 in
theorem fl_X9_11 : fldOk RX9 11 9 0 := ⟨_, rfl, by decide, gt_2 81 rfl rfl, inG_X9⟩
set_option maxRecDepth 100000 in
theorem fl_X10_110 : fldOk RX10 110 9 0 := ⟨_, rfl, by decide, gt_2 82 rfl rfl, inG_X9⟩
set_option maxRecDepth 100000 in
theorem fl_X9_16 : fldOk RX9 16 9 1 := ⟨_, rfl, by decide, gt_2 83 rfl rfl, inG_X9⟩
set_option maxRecDepth 100000 in
theorem fl_X10_274 : fldOk RX10 274 9 1 := ⟨_, rfl, by decide, gt_2 84 rfl rfl, inG_X9⟩
set_option maxRecDepth 100000 in
theorem fl_X9_20 : fldOk RX9 20 9 2 := ⟨_, rfl, by decide, gt_2 85 rfl rfl, inG_X9⟩
set_option maxRecDepth 100000 in
theorem fl_X10_114 : fldOk RX10 114 9 2 := ⟨_, rfl, by decide, gt_2 86 rfl rfl, inG_X9⟩
set_option maxRecDepth 100000 in
theorem fl_X9_29 : fldOk RX9 29 9 3 := ⟨_, rfl, by decide, gt_2 87 rfl rfl, inG_X9⟩
set_option maxRecDepth 100000 in
theorem fl_X10_306 : fldOk RX10 306 9 3 := ⟨_, rfl, by decide, gt_2 88 rfl rfl, inG_X9⟩
set_option maxRecDepth 100000 in
theorem fl_X10_12 : fldOk RX10 12 10 0 := ⟨_, rfl, by decide, gt_2 98 rfl rfl, inG_X10⟩
set_option maxRecDepth 100000 in
theorem fl_X10_23 : fldOk RX10 23 10 1 := ⟨_, rfl, by decide, gt_2 99 rfl rfl, inG_X10⟩
set_option maxRecDepth 100000 in
theorem fl_X10_32 : fldOk RX10 32 10 2 := ⟨_, rfl, by decide, gt_2 100 rfl rfl, inG_X10⟩
set_option maxRecDepth 100000 in
theorem fl_X10_39 : fldOk RX10 39 10 3 := ⟨_, rfl, by decide, gt_2 101 rfl rfl, inG_X10⟩
set_option maxRecDepth 100000 in
theorem fl_X10_46 : fldOk RX10 46 10 4 := ⟨_, rfl, by decide, gt_2 102 rfl rfl, inG_X10⟩
set_option maxRecDepth 100000 in
theorem fl_X10_53 : fldOk RX10 53 10 5 := ⟨_, rfl, by decide, gt_2 103 rfl rfl, inG_X10⟩
set_option maxRecDepth 100000 in
theorem fl_X10_60 : fldOk RX10 60 10 6 := ⟨_, rfl, by decide, gt_2 104 rfl rfl, inG_X10⟩
set_option maxRecDepth 100000 in
theorem fl_X10_67 : fldOk RX10 67 10 7 := ⟨_, rfl, by decide, gt_2 105 rfl rfl, inG_X10⟩
set_option maxRecDepth 100000 in
theorem fl_X10_74 : fldOk RX10 74 10 8 := ⟨_, rfl, by decide, gt_2 106 rfl rfl, inG_X10⟩
set_option maxRecDepth 100000 in
theorem fl_X11_108 : fldOk RX11 108 11 0 := ⟨_, rfl, by decide, gt_4 206 rfl rfl, inG_X11⟩
set_option maxRecDepth 100000 in
theorem fl_X11_101 : fldOk RX11 101 11 1 := ⟨_, rfl, by decide, gt_4 207 rfl rfl, inG_X11⟩
set_option maxRecDepth 100000 in
theorem fl_X11_9 : fldOk RX11 9 11 2 := ⟨_, rfl, by decide, gt_4 208 rfl rfl, inG_X11⟩
set_option maxRecDepth 100000 in
theorem fl_X11_13 : fldOk RX11 13 11 3 := ⟨_, rfl, by decide, gt_4 209 rfl rfl, inG_X11⟩
set_option maxRecDepth 100000 in
theorem fl_X11_122 : fldOk RX11 122 11 4 := ⟨_, rfl, by decide, gt_4 210 rfl rfl, inG_X11⟩
set_option maxRecDepth 100000 in
theorem fl_X11_16 : fldOk RX11 16 11 5 := ⟨_, rfl, by decide, gt_4 211 rfl rfl, inG_X11⟩
set_option maxRecDepth 100000 in
theorem fl_X11_19 : fldOk RX11 19 11 6 := ⟨_, rfl, by decide, gt_4 212 rfl rfl, inG_X11⟩
set_option maxRecDepth 100000 in
theorem fl_X11_22 : fldOk RX11 22 11 7 := ⟨_, rfl, by decide, gt_4 213 rfl rfl, inG_X11⟩
set_option maxRecDepth 100000 in
theorem fl_X11_25 : fldOk RX11 25 11 8 := ⟨_, rfl, by decide, gt_4 214 rfl rfl, inG_X11⟩
set_option maxRecDepth 100000 in
theorem fl_X11_28 : fldOk RX11 28 11 9 := ⟨_, rfl, by decide, gt_4 215 rfl rfl, inG_X11⟩
set_option maxRecDepth 100000 in
theorem fl_X11_31 : fldOk RX11 31 11 10 := ⟨_, rfl, by decide, gt_4 216 rfl rfl, inG_X11⟩
set_option maxRecDepth 100000 in
theorem fl_X11_34 : fldOk RX11 34 11 11 := ⟨_, rfl, by decide, gt_4 217 rfl rfl, inG_X11⟩
set_option maxRecDepth 100000 in
theorem fl_X11_38 : fldOk RX11 38 11 12 := ⟨_, rfl, by decide, gt_4 218 rfl rfl, inG_X11⟩
set_option maxRecDepth 100000 in
theorem fl_X11_111 : fldOk RX11 111 11 13 := ⟨_, rfl, by decide, gt_4 219 rfl rfl, inG_X11⟩
set_option maxRecDepth 100000 in
theorem fl_X11_41 : fldOk RX11 41 11 14 := ⟨_, rfl, by decide, gt_4 220 rfl rfl, inG_X11⟩
set_option maxRecDepth 100000 in
theorem fl_X11_44 : fldOk RX11 44 11 15 := ⟨_, rfl, by decide, gt_4 221 rfl rfl, inG_X11⟩
set_option maxRecDepth 100000 in
theorem fl_X11_47 : fldOk RX11 47 11 16 := ⟨_, rfl, by decide, gt_4 222 rfl rfl, inG_X11⟩
set_option maxRecDepth 100000 in
theorem fl_X11_51 : fldOk RX11 51 11 17 := ⟨_, rfl, by decide, gt_4 223 rfl rfl, inG_X11⟩
set_option maxRecDepth 100000 in
theorem fl_X11_54 : fldOk RX11 54 11 18 := ⟨_, rfl, by decide, gt_4 224 rfl rfl, inG_X11⟩
set_option maxRecDepth 100000 in
theorem fl_X11_57 : fldOk RX11 57 11 19 := ⟨_, rfl, by decide, gt_4 225 rfl rfl, inG_X11⟩
set_option maxRecDepth 100000 in
theorem fl_X11_60 : fldOk RX11 60 11 20 := ⟨_, rfl, by decide, gt_4 226 rfl rfl, inG_X11⟩
set_option maxRecDepth 100000 in
theorem fl_X11_186 : fldOk RX11 186 11 21 := ⟨_, rfl, by decide, gt_4 227 rfl rfl, inG_X11⟩
set_option maxRecDepth 100000 in
theorem fl_X11_63 : fldOk RX11 63 11 22 := ⟨_, rfl, by decide, gt_4 228 rfl rfl, inG_X11⟩
set_option maxRecDepth 100000 in
theorem fl_X11_204 : fldOk RX11 204 11 23 := ⟨_, rfl, by decide, gt_4 229 rfl rfl, inG_X11⟩
set_option maxRecDepth 100000 in
theorem fl_X11_66 : fldOk RX11 66 11 24 := ⟨_, rfl, by decide, gt_4 230 rfl rfl, inG_X11⟩
set_option maxRecDepth 100000 in
theorem fl_X11_207 : fldOk RX11 207 11 25 := ⟨_, rfl, by decide, gt_4 231 rfl rfl, inG_X11⟩
set_option maxRecDepth 100000 in
theorem fl_X11_210 : fldOk RX11 210 11 26 := ⟨_, rfl, by decide, gt_4 232 rfl rfl, inG_X11⟩
set_option maxRecDepth 100000 in
theorem fl_X11_269 : fldOk RX11 269 11 27 := ⟨_, rfl, by decide, gt_4 233 rfl rfl, inG_X11⟩
set_option maxRecDepth 100000 in
theorem fl_X11_272 : fldOk RX11 272 11 28 := ⟨_, rfl, by decide, gt_4 234 rfl rfl, inG_X11⟩
set_option maxRecDepth 100000 in
theorem fl_X11_304 : fldOk RX11 304 11 29 := ⟨_, rfl, by decide, gt_4 235 rfl rfl, inG_X11⟩
set_option maxRecDepth 100000 in
theorem fl_X11_69 : fldOk RX11 69 11 30 := ⟨_, rfl, by decide, gt_4 236 rfl rfl, inG_X11⟩
set_option maxRecDepth 100000 in
theorem fl_X11_307 : fldOk RX11 307 11 31 := ⟨_, rfl, by decide, gt_4 237 rfl rfl, inG_X11⟩
set_option maxRecDepth 100000 in
theorem fl_X11_313 : fldOk RX11 313 11 32 := ⟨_, rfl, by decide, gt_4 238 rfl rfl, inG_X11⟩
set_option maxRecDepth 100000 in
theorem fl_X11_320 : fldOk RX11 320 11 33 := ⟨_, rfl, by decide, gt_4 239 rfl rfl, inG_X11⟩
set_option maxRecDepth 100000 in
theorem fl_X11_323 : fldOk RX11 323 11 34 := ⟨_, rfl, by decide, gt_5 0 rfl rfl, inG_X11⟩
set_option maxRecDepth 100000 in
theorem fl_X11_330 : fldOk RX11 330 11 35 := ⟨_, rfl, by decide, gt_5 1 rfl rfl, inG_X11⟩
set_option maxRecDepth 100000 in
theorem fl_X11_72 : fldOk RX11 72 11 36 := ⟨_, rfl, by decide, gt_5 2 rfl rfl, inG_X11⟩
set_option maxRecDepth 100000 in
theorem fl_X11_76 : fldOk RX11 76 11 37 := ⟨_, rfl, by decide, gt_5 3 rfl rfl, inG_X11⟩
set_option maxRecDepth 100000 in
theorem fl_X11_79 : fldOk RX11 79 11 38 := ⟨_, rfl, by decide, gt_5 4 rfl rfl, inG_X11⟩
set_option maxRecDepth 100000 in
theorem fl_X11_82 : fldOk RX11 82 11 39 := ⟨_, rfl, by decide, gt_5 5 rfl rfl, inG_X11⟩
set_option maxRecDepth 100000 in
theorem fl_X11_85 : fldOk RX11 85 11 40 := ⟨_, rfl, by decide, gt_5 6 rfl rfl, inG_X11⟩
set_option maxRecDepth 100000 in
theorem fl_X11_342 : fldOk RX11 342 11 41 := ⟨_, rfl, by decide, gt_5 7 rfl rfl, inG_X11⟩
theorem po_X0_3 : putOk 0 3 .int := ⟨_, tyX0, rfl, tyX0_ok, nmX0, rfl, by decide +kernel⟩
theorem po_X0_4 : putOk 0 4 .int := ⟨_, tyX0, rfl, tyX0_ok, nmX0, rfl, by decide +kernel⟩
theorem po_X0_5 : putOk 0 5 .int := ⟨_, tyX0, rfl, tyX0_ok, nmX0, rfl, by decide +kernel⟩
theorem po_X1_0 : putOk 1 0 .int := ⟨_, tyX1, rfl, tyX1_ok, nmX1, rfl, by decide +kernel⟩
theorem po_X1_1 : putOk 1 1 .int := ⟨_, tyX1, rfl, tyX1_ok, nmX1, rfl, by decide +kernel⟩
theorem po_X1_2 : putOk 1 2 .int := ⟨_, tyX1, rfl, tyX1_ok, nmX1, rfl, by decide +kernel⟩
theorem po_X1_5 : putOk 1 5 .int := ⟨_, tyX1, rfl, tyX1_ok, nmX1, rfl, by decide +kernel⟩
theorem po_X3_4 : putOk 3 4 .int := ⟨_, tyX3, rfl, tyX3_ok, nmX3, rfl, by decide +kernel⟩
theorem po_X3_5 : putOk 3 5 .long := ⟨_, tyX3, rfl, tyX3_ok, nmX3, rfl, by decide +kernel⟩
theorem po_X4_2 : putOk 4 2 .int := ⟨_, tyX4, rfl, tyX4_ok, nmX4, rfl, by decide +kernel⟩
theorem po_X4_3 : putOk 4 3 .long := ⟨_, tyX4, rfl, tyX4_ok, nmX4, rfl, by decide +kernel⟩
theorem po_X4_4 : putOk 4 4 .int := ⟨_, tyX4, rfl, tyX4_ok, nmX4, rfl, by decide +kernel⟩
theorem po_X5_0 : putOk 5 0 .long := ⟨_, tyX5, rfl, tyX5_ok, nmX5, rfl, by decide +kernel⟩
theorem po_X5_1 : putOk 5 1 .long := ⟨_, tyX5, rfl, tyX5_ok, nmX5, rfl, by decide +kernel⟩
theorem po_X6_5 : putOk 6 5 .int := ⟨_, tyX6, rfl, tyX6_ok, nmX6, rfl, by decide +kernel⟩
theorem po_X9_3 : putOk 9 3 .int := ⟨_, tyX9, rfl, tyX9_ok, nmX9, rfl, by decide +kernel⟩
theorem po_X11_0 : putOk 11 0 .int := ⟨_, tyX11, rfl, tyX11_ok, nmX11, rfl, by decide +kernel⟩
theorem po_X11_1 : putOk 11 1 .int := ⟨_, tyX11, rfl, tyX11_ok, nmX11, rfl, by decide +kernel⟩
theorem po_X11_4 : putOk 11 4 .int := ⟨_, tyX11, rfl, tyX11_ok, nmX11, rfl, by decide +kernel⟩
theorem po_X11_11 : putOk 11 11 .int := ⟨_, tyX11, rfl, tyX11_ok, nmX11, rfl, by decide +kernel⟩
theorem po_X11_12 : putOk 11 12 .int := ⟨_, tyX11, rfl, tyX11_ok, nmX11, rfl, by decide +kernel⟩
theorem po_X11_13 : putOk 11 13 .boolean := ⟨_, tyX11, rfl, tyX11_ok, nmX11, rfl, by decide +kernel⟩
theorem po_X11_21 : putOk 11 21 .long := ⟨_, tyX11, rfl, tyX11_ok, nmX11, rfl, by decide +kernel⟩
theorem po_X11_23 : putOk 11 23 .int := ⟨_, tyX11, rfl, tyX11_ok, nmX11, rfl, by decide +kernel⟩
theorem po_X11_25 : putOk 11 25 .long := ⟨_, tyX11, rfl, tyX11_ok, nmX11, rfl, by decide +kernel⟩
theorem po_X11_26 : putOk 11 26 .long := ⟨_, tyX11, rfl, tyX11_ok, nmX11, rfl, by decide +kernel⟩
theorem po_X11_27 : putOk 11 27 .long := ⟨_, tyX11, rfl, tyX11_ok, nmX11, rfl, by decide +kernel⟩
theorem po_X11_28 : putOk 11 28 .long := ⟨_, tyX11, rfl, tyX11_ok, nmX11, rfl, by decide +kernel⟩
theorem po_X11_29 : putOk 11 29 .int := ⟨_, tyX11, rfl, tyX11_ok, nmX11, rfl, by decide +kernel⟩
theorem po_X11_31 : putOk 11 31 .int := ⟨_, tyX11, rfl, tyX11_ok, nmX11, rfl, by decide +kernel⟩
theorem po_X11_32 : putOk 11 32 .int := ⟨_, tyX11, rfl, tyX11_ok, nmX11, rfl, by decide +kernel⟩
theorem po_X11_33 : putOk 11 33 .long := ⟨_, tyX11, rfl, tyX11_ok, nmX11, rfl, by decide +kernel⟩
theorem po_X11_34 : putOk 11 34 .long := ⟨_, tyX11, rfl, tyX11_ok, nmX11, rfl, by decide +kernel⟩
theorem po_X11_35 : putOk 11 35 .long := ⟨_, tyX11, rfl, tyX11_ok, nmX11, rfl, by decide +kernel⟩
theorem po_X11_41 : putOk 11 41 .int := ⟨_, tyX11, rfl, tyX11_ok, nmX11, rfl, by decide +kernel⟩
set_option maxRecDepth 100000 in
theorem ci_X10_155 : Cond.constant RX10 155 (-2147483648) ∈ gt := gt_3 17 rfl rfl
set_option maxRecDepth 100000 in
theorem ci_X10_169 : Cond.constant RX10 169 (-2147483647) ∈ gt := gt_3 31 rfl rfl
set_option maxRecDepth 100000 in
theorem ci_J6_265 : Cond.constant RJ6 265 (1431655765) ∈ gt := gt_3 69 rfl rfl
set_option maxRecDepth 100000 in
theorem ci_J6_266 : Cond.constant RJ6 266 (858993459) ∈ gt := gt_3 70 rfl rfl
set_option maxRecDepth 100000 in
theorem ci_J6_267 : Cond.constant RJ6 267 (252645135) ∈ gt := gt_3 71 rfl rfl
set_option maxRecDepth 100000 in
theorem ci_X11_156 : Cond.constant RX11 156 (-2147483648) ∈ gt := gt_5 159 rfl rfl
set_option maxRecDepth 100000 in
theorem ci_X11_168 : Cond.constant RX11 168 (-2147483647) ∈ gt := gt_5 204 rfl rfl
set_option maxRecDepth 100000 in
theorem cl_X7_100 : Cond.constantLong RX7 100 (1000) ∈ gt := gt_2 205 rfl rfl
set_option maxRecDepth 100000 in
theorem cl_X10_355 : Cond.constantLong RX10 355 (2) ∈ gt := gt_2 209 rfl rfl
set_option maxRecDepth 100000 in
theorem cl_X0_39 : Cond.constantLong RX0 39 (1000000) ∈ gt := gt_3 44 rfl rfl
set_option maxRecDepth 100000 in
theorem cl_X10_249 : Cond.constantLong RX10 249 (-9223372036854775808) ∈ gt := gt_3 130 rfl rfl
set_option maxRecDepth 100000 in
theorem cl_X6_48 : Cond.constantLong RX6 48 (2) ∈ gt := gt_3 146 rfl rfl
set_option maxRecDepth 100000 in
theorem cl_X6_83 : Cond.constantLong RX6 83 (4) ∈ gt := gt_3 161 rfl rfl
set_option maxRecDepth 100000 in
theorem cl_X6_89 : Cond.constantLong RX6 89 (100000000) ∈ gt := gt_3 167 rfl rfl
set_option maxRecDepth 100000 in
theorem cl_X6_101 : Cond.constantLong RX6 101 (1483) ∈ gt := gt_3 174 rfl rfl
set_option maxRecDepth 100000 in
theorem cl_X6_103 : Cond.constantLong RX6 103 (2000) ∈ gt := gt_3 175 rfl rfl
set_option maxRecDepth 100000 in
theorem cl_X6_105 : Cond.constantLong RX6 105 (3) ∈ gt := gt_3 176 rfl rfl
set_option maxRecDepth 100000 in
theorem cl_X6_122 : Cond.constantLong RX6 122 (1286) ∈ gt := gt_3 191 rfl rfl
set_option maxRecDepth 100000 in
theorem cl_X6_124 : Cond.constantLong RX6 124 (1000) ∈ gt := gt_3 192 rfl rfl
set_option maxRecDepth 100000 in
theorem cl_X6_130 : Cond.constantLong RX6 130 (100) ∈ gt := gt_3 208 rfl rfl
set_option maxRecDepth 100000 in
theorem cl_X8_68 : Cond.constantLong RX8 68 (2) ∈ gt := gt_3 237 rfl rfl
set_option maxRecDepth 100000 in
theorem cl_X8_55 : Cond.constantLong RX8 55 (1000) ∈ gt := gt_4 4 rfl rfl
set_option maxRecDepth 100000 in
theorem cl_X8_82 : Cond.constantLong RX8 82 (-1) ∈ gt := gt_4 20 rfl rfl
set_option maxRecDepth 100000 in
theorem cl_X3_64 : Cond.constantLong RX3 64 (1000000) ∈ gt := gt_4 70 rfl rfl
set_option maxRecDepth 100000 in
theorem cl_X4_54 : Cond.constantLong RX4 54 (100000) ∈ gt := gt_4 105 rfl rfl
set_option maxRecDepth 100000 in
theorem cl_X4_62 : Cond.constantLong RX4 62 (10000) ∈ gt := gt_4 110 rfl rfl
set_option maxRecDepth 100000 in
theorem cl_X10_312 : Cond.constantLong RX10 312 (17) ∈ gt := gt_4 187 rfl rfl
set_option maxRecDepth 100000 in
theorem cl_X10_314 : Cond.constantLong RX10 314 (31) ∈ gt := gt_4 188 rfl rfl
set_option maxRecDepth 100000 in
theorem cl_X10_341 : Cond.constantLong RX10 341 (-3) ∈ gt := gt_4 197 rfl rfl
set_option maxRecDepth 100000 in
theorem cl_X11_139 : Cond.constantLong RX11 139 (1000) ∈ gt := gt_5 172 rfl rfl
set_option maxRecDepth 100000 in
theorem cl_X11_88 : Cond.constantLong RX11 88 (2) ∈ gt := gt_5 180 rfl rfl
set_option maxRecDepth 100000 in
theorem cl_X11_175 : Cond.constantLong RX11 175 (1000000) ∈ gt := gt_5 216 rfl rfl
set_option maxRecDepth 100000 in
theorem cl_X11_193 : Cond.constantLong RX11 193 (-1) ∈ gt := gt_6 11 rfl rfl
set_option maxRecDepth 100000 in
theorem cl_X11_249 : Cond.constantLong RX11 249 (-9223372036854775806) ∈ gt := gt_6 24 rfl rfl
set_option maxRecDepth 100000 in
theorem cl_X11_220 : Cond.constantLong RX11 220 (100000000) ∈ gt := gt_6 49 rfl rfl
set_option maxRecDepth 100000 in
theorem cl_X11_227 : Cond.constantLong RX11 227 (1483) ∈ gt := gt_6 54 rfl rfl
set_option maxRecDepth 100000 in
theorem cl_X11_229 : Cond.constantLong RX11 229 (3) ∈ gt := gt_6 55 rfl rfl
set_option maxRecDepth 100000 in
theorem cl_X11_235 : Cond.constantLong RX11 235 (1286) ∈ gt := gt_6 59 rfl rfl
set_option maxRecDepth 100000 in
theorem cl_X11_222 : Cond.constantLong RX11 222 (3000000000) ∈ gt := gt_6 63 rfl rfl
set_option maxRecDepth 100000 in
theorem cl_X11_258 : Cond.constantLong RX11 258 (-9223372036854775805) ∈ gt := gt_6 70 rfl rfl
set_option maxRecDepth 100000 in
theorem cl_X11_260 : Cond.constantLong RX11 260 (100) ∈ gt := gt_6 79 rfl rfl
set_option maxRecDepth 100000 in
theorem cl_X11_265 : Cond.constantLong RX11 265 (200) ∈ gt := gt_6 84 rfl rfl
set_option maxRecDepth 100000 in
theorem cl_X11_267 : Cond.constantLong RX11 267 (300) ∈ gt := gt_6 85 rfl rfl
set_option maxRecDepth 100000 in
theorem cl_X11_291 : Cond.constantLong RX11 291 (840) ∈ gt := gt_6 122 rfl rfl
set_option maxRecDepth 100000 in
theorem cl_X11_296 : Cond.constantLong RX11 296 (-9223372036854775808) ∈ gt := gt_6 135 rfl rfl
set_option maxRecDepth 100000 in
theorem cl_X11_326 : Cond.constantLong RX11 326 (100000) ∈ gt := gt_6 176 rfl rfl
set_option maxRecDepth 100000 in
theorem cl_X11_328 : Cond.constantLong RX11 328 (10000) ∈ gt := gt_6 177 rfl rfl
set_option maxRecDepth 100000 in
theorem cl_X11_356 : Cond.constantLong RX11 356 (17) ∈ gt := gt_6 234 rfl rfl
set_option maxRecDepth 100000 in
theorem cl_X11_358 : Cond.constantLong RX11 358 (31) ∈ gt := gt_6 235 rfl rfl
set_option maxRecDepth 100000 in
theorem cl_X11_363 : Cond.constantLong RX11 363 (-3) ∈ gt := gt_6 237 rfl rfl
/-- what is known of a method: initialised, its code, its descriptor -/
def kOk (n : Nat) (M : Mt) : Prop := Cond.initialized M.1.cls ∈ gt ∧ Cond.code M.1 M.2.1 M.2.2.1 M.2.2.2 ∈ gt ∧ (M.1.cls ≠ "java/lang/invoke/MethodHandle" ∧ M.1.cls ≠ "java/lang/invoke/VarHandle" ∧ (parseMethodDescriptor M.1.desc).map (fun d => d.parameters.length) = some n) ∧ M.2.2.1 ≤ 40 ∧ plainFor M.1 = true
def vOk (ci : Nat) (M : Mt) : Prop := Cond.instanceMethod M.1 ∈ gt ∧ Cond.selects M.1.cls M.1 M.1 ∈ gt ∧ ∃ q : vw_C, vwCl[ci]? = some q ∧ q.1 = M.1.cls
def neL : List (String × Nat × MethodName × String) := [(RX7, 85, yX10_nearest, "SentRound"), (RX6, 79, yX10_putInOrder, "SentRound"), (RX8, 57, yX10_nearest, "SentRound")]
set_option maxRecDepth 100000 in
theorem ko_X0_changeFactor : kOk 1 mX0_changeFactor := ⟨gt_1 4 rfl rfl, gt_3 12 rfl rfl, ⟨by decide +kernel, by decide +kernel, by decide +kernel⟩, Nat.le_of_ble_eq_true rfl, by decide +kernel⟩
set_option maxRecDepth 100000 in
theorem kv_X0_changeFactor : vOk 0 mX0_changeFactor := ⟨gt_3 10 rfl rfl, gt_3 11 rfl rfl, _, rfl, rfl⟩
set_option maxRecDepth 100000 in
theorem ko_X0_holds : kOk 3 mX0_holds := ⟨gt_1 4 rfl rfl, gt_3 39 rfl rfl, ⟨by decide +kernel, by decide +kernel, by decide +kernel⟩, Nat.le_of_ble_eq_true rfl, by decide +kernel⟩
set_option maxRecDepth 100000 in
theorem kv_X0_holds : vOk 0 mX0_holds := ⟨gt_3 37 rfl rfl, gt_3 38 rfl rfl, _, rfl, rfl⟩
set_option maxRecDepth 100000 in
theorem ko_X0_mostOf : kOk 1 mX0_mostOf := ⟨gt_1 4 rfl rfl, gt_3 52 rfl rfl, ⟨by decide +kernel, by decide +kernel, by decide +kernel⟩, Nat.le_of_ble_eq_true rfl, by decide +kernel⟩
set_option maxRecDepth 100000 in
theorem kv_X0_mostOf : vOk 0 mX0_mostOf := ⟨gt_3 50 rfl rfl, gt_3 51 rfl rfl, _, rfl, rfl⟩
set_option maxRecDepth 100000 in
theorem ko_X0_agreeingWith : kOk 3 mX0_agreeingWith := ⟨gt_1 4 rfl rfl, gt_3 61 rfl rfl, ⟨by decide +kernel, by decide +kernel, by decide +kernel⟩, Nat.le_of_ble_eq_true rfl, by decide +kernel⟩
set_option maxRecDepth 100000 in
theorem kv_X0_agreeingWith : vOk 0 mX0_agreeingWith := ⟨gt_3 60 rfl rfl, gt_sel (q := (yX0_agreeingWith, 6)) (by decide +kernel), _, rfl, rfl⟩
set_option maxRecDepth 100000 in
theorem ko_X0_widestCircle : kOk 5 mX0_widestCircle := ⟨gt_1 4 rfl rfl, gt_3 65 rfl rfl, ⟨by decide +kernel, by decide +kernel, by decide +kernel⟩, Nat.le_of_ble_eq_true rfl, by decide +kernel⟩
set_option maxRecDepth 100000 in
theorem ks_X0_widestCircle : Cond.static yX0_widestCircle ∈ gt := gt_3 64 rfl rfl
set_option maxRecDepth 100000 in
theorem ko_X0_meet : kOk 1 mX0_meet := ⟨gt_1 4 rfl rfl, gt_3 79 rfl rfl, ⟨by decide +kernel, by decide +kernel, by decide +kernel⟩, Nat.le_of_ble_eq_true rfl, by decide +kernel⟩
set_option maxRecDepth 100000 in
theorem kv_X0_meet : vOk 0 mX0_meet := ⟨gt_3 77 rfl rfl, gt_3 78 rfl rfl, _, rfl, rfl⟩
set_option maxRecDepth 100000 in
theorem ko_X0_spansAt : kOk 2 mX0_spansAt := ⟨gt_1 4 rfl rfl, gt_3 88 rfl rfl, ⟨by decide +kernel, by decide +kernel, by decide +kernel⟩, Nat.le_of_ble_eq_true rfl, by decide +kernel⟩
set_option maxRecDepth 100000 in
theorem kv_X0_spansAt : vOk 0 mX0_spansAt := ⟨gt_3 87 rfl rfl, gt_sel (q := (yX0_spansAt, 6)) (by decide +kernel), _, rfl, rfl⟩
set_option maxRecDepth 100000 in
theorem ko_X0_reachOf : kOk 1 mX0_reachOf := ⟨gt_1 4 rfl rfl, gt_3 84 rfl rfl, ⟨by decide +kernel, by decide +kernel, by decide +kernel⟩, Nat.le_of_ble_eq_true rfl, by decide +kernel⟩
set_option maxRecDepth 100000 in
theorem kv_X0_reachOf : vOk 0 mX0_reachOf := ⟨gt_3 83 rfl rfl, gt_sel (q := (yX0_reachOf, 6)) (by decide +kernel), _, rfl, rfl⟩
set_option maxRecDepth 100000 in
theorem ko_X1_addHouse : kOk 1 mX1_addHouse := ⟨gt_1 2 rfl rfl, gt_2 137 rfl rfl, ⟨by decide +kernel, by decide +kernel, by decide +kernel⟩, Nat.le_of_ble_eq_true rfl, by decide +kernel⟩
set_option maxRecDepth 100000 in
theorem kv_X1_addHouse : vOk 1 mX1_addHouse := ⟨gt_2 135 rfl rfl, gt_2 136 rfl rfl, _, rfl, rfl⟩
set_option maxRecDepth 100000 in
theorem ko_X1_changeDoubt : kOk 2 mX1_changeDoubt := ⟨gt_1 2 rfl rfl, gt_2 149 rfl rfl, ⟨by decide +kernel, by decide +kernel, by decide +kernel⟩, Nat.le_of_ble_eq_true rfl, by decide +kernel⟩
set_option maxRecDepth 100000 in
theorem kv_X1_changeDoubt : vOk 1 mX1_changeDoubt := ⟨gt_2 147 rfl rfl, gt_2 148 rfl rfl, _, rfl, rfl⟩
set_option maxRecDepth 100000 in
theorem ko_X1_addReading : kOk 4 mX1_addReading := ⟨gt_1 2 rfl rfl, gt_2 168 rfl rfl, ⟨by decide +kernel, by decide +kernel, by decide +kernel⟩, Nat.le_of_ble_eq_true rfl, by decide +kernel⟩
set_option maxRecDepth 100000 in
theorem kv_X1_addReading : vOk 1 mX1_addReading := ⟨gt_2 166 rfl rfl, gt_2 167 rfl rfl, _, rfl, rfl⟩
set_option maxRecDepth 100000 in
theorem ko_X1_readingsOf : kOk 2 mX1_readingsOf := ⟨gt_1 2 rfl rfl, gt_2 164 rfl rfl, ⟨by decide +kernel, by decide +kernel, by decide +kernel⟩, Nat.le_of_ble_eq_true rfl, by decide +kernel⟩
set_option maxRecDepth 100000 in
theorem kv_X1_readingsOf : vOk 1 mX1_readingsOf := ⟨gt_2 162 rfl rfl, gt_2 163 rfl rfl, _, rfl, rfl⟩
set_option maxRecDepth 100000 in
theorem ko_X1_isKnown : kOk 1 mX1_isKnown := ⟨gt_1 2 rfl rfl, gt_2 184 rfl rfl, ⟨by decide +kernel, by decide +kernel, by decide +kernel⟩, Nat.le_of_ble_eq_true rfl, by decide +kernel⟩
set_option maxRecDepth 100000 in
theorem kv_X1_isKnown : vOk 1 mX1_isKnown := ⟨gt_2 182 rfl rfl, gt_2 183 rfl rfl, _, rfl, rfl⟩
set_option maxRecDepth 100000 in
theorem ko_X1_isKnownOf : kOk 2 mX1_isKnownOf := ⟨gt_1 2 rfl rfl, gt_2 180 rfl rfl, ⟨by decide +kernel, by decide +kernel, by decide +kernel⟩, Nat.le_of_ble_eq_true rfl, by decide +kernel⟩
set_option maxRecDepth 100000 in
theorem kv_X1_isKnownOf : vOk 1 mX1_isKnownOf := ⟨gt_2 178 rfl rfl, gt_2 179 rfl rfl, _, rfl, rfl⟩
set_option maxRecDepth 100000 in
theorem ko_X1_knownReadings : kOk 0 mX1_knownReadings := ⟨gt_1 2 rfl rfl, gt_4 180 rfl rfl, ⟨by decide +kernel, by decide +kernel, by decide +kernel⟩, Nat.le_of_ble_eq_true rfl, by decide +kernel⟩
set_option maxRecDepth 100000 in
theorem kv_X1_knownReadings : vOk 1 mX1_knownReadings := ⟨gt_4 178 rfl rfl, gt_4 179 rfl rfl, _, rfl, rfl⟩
set_option maxRecDepth 100000 in
theorem ko_X1_squaredDoubt : kOk 1 mX1_squaredDoubt := ⟨gt_1 2 rfl rfl, gt_3 43 rfl rfl, ⟨by decide +kernel, by decide +kernel, by decide +kernel⟩, Nat.le_of_ble_eq_true rfl, by decide +kernel⟩
set_option maxRecDepth 100000 in
theorem kv_X1_squaredDoubt : vOk 1 mX1_squaredDoubt := ⟨gt_3 41 rfl rfl, gt_3 42 rfl rfl, _, rfl, rfl⟩
set_option maxRecDepth 100000 in
theorem ko_X2_reckonTo : kOk 1 mX2_reckonTo := ⟨gt_1 5 rfl rfl, gt_3 99 rfl rfl, ⟨by decide +kernel, by decide +kernel, by decide +kernel⟩, Nat.le_of_ble_eq_true rfl, by decide +kernel⟩
set_option maxRecDepth 100000 in
theorem kv_X2_reckonTo : vOk 2 mX2_reckonTo := ⟨gt_3 97 rfl rfl, gt_3 98 rfl rfl, _, rfl, rfl⟩
set_option maxRecDepth 100000 in
theorem ko_X2_findNeighbours : kOk 0 mX2_findNeighbours := ⟨gt_1 5 rfl rfl, gt_3 103 rfl rfl, ⟨by decide +kernel, by decide +kernel, by decide +kernel⟩, Nat.le_of_ble_eq_true rfl, by decide +kernel⟩
set_option maxRecDepth 100000 in
theorem kv_X2_findNeighbours : vOk 2 mX2_findNeighbours := ⟨gt_3 102 rfl rfl, gt_sel (q := (yX2_findNeighbours, 4)) (by decide +kernel), _, rfl, rfl⟩
set_option maxRecDepth 100000 in
theorem ko_X2_cheapestBeside : kOk 1 mX2_cheapestBeside := ⟨gt_1 5 rfl rfl, gt_3 110 rfl rfl, ⟨by decide +kernel, by decide +kernel, by decide +kernel⟩, Nat.le_of_ble_eq_true rfl, by decide +kernel⟩
set_option maxRecDepth 100000 in
theorem kv_X2_cheapestBeside : vOk 2 mX2_cheapestBeside := ⟨gt_3 109 rfl rfl, gt_sel (q := (yX2_cheapestBeside, 4)) (by decide +kernel), _, rfl, rfl⟩
set_option maxRecDepth 100000 in
theorem ko_X2_costBy : kOk 1 mX2_costBy := ⟨gt_1 5 rfl rfl, gt_3 114 rfl rfl, ⟨by decide +kernel, by decide +kernel, by decide +kernel⟩, Nat.le_of_ble_eq_true rfl, by decide +kernel⟩
set_option maxRecDepth 100000 in
theorem kv_X2_costBy : vOk 2 mX2_costBy := ⟨gt_3 113 rfl rfl, gt_sel (q := (yX2_costBy, 4)) (by decide +kernel), _, rfl, rfl⟩
set_option maxRecDepth 100000 in
theorem ko_X2_nextFrom : kOk 1 mX2_nextFrom := ⟨gt_1 5 rfl rfl, gt_3 122 rfl rfl, ⟨by decide +kernel, by decide +kernel, by decide +kernel⟩, Nat.le_of_ble_eq_true rfl, by decide +kernel⟩
set_option maxRecDepth 100000 in
theorem kv_X2_nextFrom : vOk 2 mX2_nextFrom := ⟨gt_3 120 rfl rfl, gt_3 121 rfl rfl, _, rfl, rfl⟩
set_option maxRecDepth 100000 in
theorem ko_X3_gather : kOk 1 mX3_gather := ⟨gt_1 9 rfl rfl, gt_4 57 rfl rfl, ⟨by decide +kernel, by decide +kernel, by decide +kernel⟩, Nat.le_of_ble_eq_true rfl, by decide +kernel⟩
set_option maxRecDepth 100000 in
theorem kv_X3_gather : vOk 3 mX3_gather := ⟨gt_4 55 rfl rfl, gt_4 56 rfl rfl, _, rfl, rfl⟩
set_option maxRecDepth 100000 in
theorem ko_X3_chance : kOk 0 mX3_chance := ⟨gt_1 9 rfl rfl, gt_4 63 rfl rfl, ⟨by decide +kernel, by decide +kernel, by decide +kernel⟩, Nat.le_of_ble_eq_true rfl, by decide +kernel⟩
set_option maxRecDepth 100000 in
theorem kv_X3_chance : vOk 3 mX3_chance := ⟨gt_4 61 rfl rfl, gt_4 62 rfl rfl, _, rfl, rfl⟩
set_option maxRecDepth 100000 in
theorem ko_X3_choices : kOk 2 mX3_choices := ⟨gt_1 9 rfl rfl, gt_4 66 rfl rfl, ⟨by decide +kernel, by decide +kernel, by decide +kernel⟩, Nat.le_of_ble_eq_true rfl, by decide +kernel⟩
set_option maxRecDepth 100000 in
theorem ks_X3_choices : Cond.static yX3_choices ∈ gt := gt_4 65 rfl rfl
set_option maxRecDepth 100000 in
theorem ko_X3_dealt : kOk 4 mX3_dealt := ⟨gt_1 9 rfl rfl, gt_4 69 rfl rfl, ⟨by decide +kernel, by decide +kernel, by decide +kernel⟩, Nat.le_of_ble_eq_true rfl, by decide +kernel⟩
set_option maxRecDepth 100000 in
theorem ks_X3_dealt : Cond.static yX3_dealt ∈ gt := gt_4 68 rfl rfl
set_option maxRecDepth 100000 in
theorem ko_X4_append : kOk 1 mX4_append := ⟨gt_1 10 rfl rfl, gt_4 82 rfl rfl, ⟨by decide +kernel, by decide +kernel, by decide +kernel⟩, Nat.le_of_ble_eq_true rfl, by decide +kernel⟩
set_option maxRecDepth 100000 in
theorem kv_X4_append : vOk 4 mX4_append := ⟨gt_4 80 rfl rfl, gt_4 81 rfl rfl, _, rfl, rfl⟩
set_option maxRecDepth 100000 in
theorem ko_X4_firstFault : kOk 0 mX4_firstFault := ⟨gt_1 10 rfl rfl, gt_4 94 rfl rfl, ⟨by decide +kernel, by decide +kernel, by decide +kernel⟩, Nat.le_of_ble_eq_true rfl, by decide +kernel⟩
set_option maxRecDepth 100000 in
theorem kv_X4_firstFault : vOk 4 mX4_firstFault := ⟨gt_4 92 rfl rfl, gt_4 93 rfl rfl, _, rfl, rfl⟩
set_option maxRecDepth 100000 in
theorem ko_X4_faultOfPart : kOk 0 mX4_faultOfPart := ⟨gt_1 10 rfl rfl, gt_4 98 rfl rfl, ⟨by decide +kernel, by decide +kernel, by decide +kernel⟩, Nat.le_of_ble_eq_true rfl, by decide +kernel⟩
set_option maxRecDepth 100000 in
theorem kv_X4_faultOfPart : vOk 4 mX4_faultOfPart := ⟨gt_4 97 rfl rfl, gt_sel (q := (yX4_faultOfPart, 5)) (by decide +kernel), _, rfl, rfl⟩
set_option maxRecDepth 100000 in
theorem ko_X4_nextNumber : kOk 0 mX4_nextNumber := ⟨gt_1 10 rfl rfl, gt_4 103 rfl rfl, ⟨by decide +kernel, by decide +kernel, by decide +kernel⟩, Nat.le_of_ble_eq_true rfl, by decide +kernel⟩
set_option maxRecDepth 100000 in
theorem kv_X4_nextNumber : vOk 4 mX4_nextNumber := ⟨gt_4 102 rfl rfl, gt_sel (q := (yX4_nextNumber, 5)) (by decide +kernel), _, rfl, rfl⟩
set_option maxRecDepth 100000 in
theorem ko_X4_squareOfPart : kOk 0 mX4_squareOfPart := ⟨gt_1 10 rfl rfl, gt_4 109 rfl rfl, ⟨by decide +kernel, by decide +kernel, by decide +kernel⟩, Nat.le_of_ble_eq_true rfl, by decide +kernel⟩
set_option maxRecDepth 100000 in
theorem kv_X4_squareOfPart : vOk 4 mX4_squareOfPart := ⟨gt_4 108 rfl rfl, gt_sel (q := (yX4_squareOfPart, 5)) (by decide +kernel), _, rfl, rfl⟩
set_option maxRecDepth 100000 in
theorem ko_X4_doubtOfSquare : kOk 0 mX4_doubtOfSquare := ⟨gt_1 10 rfl rfl, gt_4 118 rfl rfl, ⟨by decide +kernel, by decide +kernel, by decide +kernel⟩, Nat.le_of_ble_eq_true rfl, by decide +kernel⟩
set_option maxRecDepth 100000 in
theorem kv_X4_doubtOfSquare : vOk 4 mX4_doubtOfSquare := ⟨gt_4 116 rfl rfl, gt_4 117 rfl rfl, _, rfl, rfl⟩
set_option maxRecDepth 100000 in
theorem ko_X5_become : kOk 2 mX5_become := ⟨gt_1 7 rfl rfl, gt_3 150 rfl rfl, ⟨by decide +kernel, by decide +kernel, by decide +kernel⟩, Nat.le_of_ble_eq_true rfl, by decide +kernel⟩
set_option maxRecDepth 100000 in
theorem kv_X5_become : vOk 5 mX5_become := ⟨gt_3 148 rfl rfl, gt_3 149 rfl rfl, _, rfl, rfl⟩
set_option maxRecDepth 100000 in
theorem ko_X5_side : kOk 1 mX5_side := ⟨gt_1 7 rfl rfl, gt_3 199 rfl rfl, ⟨by decide +kernel, by decide +kernel, by decide +kernel⟩, Nat.le_of_ble_eq_true rfl, by decide +kernel⟩
set_option maxRecDepth 100000 in
theorem kv_X5_side : vOk 5 mX5_side := ⟨gt_3 197 rfl rfl, gt_3 198 rfl rfl, _, rfl, rfl⟩
set_option maxRecDepth 100000 in
theorem ko_X5_greatestShared : kOk 2 mX5_greatestShared := ⟨gt_1 7 rfl rfl, gt_3 156 rfl rfl, ⟨by decide +kernel, by decide +kernel, by decide +kernel⟩, Nat.le_of_ble_eq_true rfl, by decide +kernel⟩
set_option maxRecDepth 100000 in
theorem ks_X5_greatestShared : Cond.static yX5_greatestShared ∈ gt := gt_3 155 rfl rfl
set_option maxRecDepth 100000 in
theorem ko_X6_reckonBy : kOk 2 mX6_reckonBy := ⟨gt_1 6 rfl rfl, gt_3 134 rfl rfl, ⟨by decide +kernel, by decide +kernel, by decide +kernel⟩, Nat.le_of_ble_eq_true rfl, by decide +kernel⟩
set_option maxRecDepth 100000 in
theorem kv_X6_reckonBy : vOk 6 mX6_reckonBy := ⟨gt_3 132 rfl rfl, gt_3 133 rfl rfl, _, rfl, rfl⟩
set_option maxRecDepth 100000 in
theorem ko_X6_gather : kOk 1 mX6_gather := ⟨gt_1 6 rfl rfl, gt_3 138 rfl rfl, ⟨by decide +kernel, by decide +kernel, by decide +kernel⟩, Nat.le_of_ble_eq_true rfl, by decide +kernel⟩
set_option maxRecDepth 100000 in
theorem kv_X6_gather : vOk 6 mX6_gather := ⟨gt_3 137 rfl rfl, gt_sel (q := (yX6_gather, 7)) (by decide +kernel), _, rfl, rfl⟩
set_option maxRecDepth 100000 in
theorem ko_X6_twiceMiddle : kOk 2 mX6_twiceMiddle := ⟨gt_1 6 rfl rfl, gt_3 145 rfl rfl, ⟨by decide +kernel, by decide +kernel, by decide +kernel⟩, Nat.le_of_ble_eq_true rfl, by decide +kernel⟩
set_option maxRecDepth 100000 in
theorem ks_X6_twiceMiddle : Cond.static yX6_twiceMiddle ∈ gt := gt_3 144 rfl rfl
set_option maxRecDepth 100000 in
theorem ko_X6_byPairs : kOk 0 mX6_byPairs := ⟨gt_1 6 rfl rfl, gt_3 160 rfl rfl, ⟨by decide +kernel, by decide +kernel, by decide +kernel⟩, Nat.le_of_ble_eq_true rfl, by decide +kernel⟩
set_option maxRecDepth 100000 in
theorem kv_X6_byPairs : vOk 6 mX6_byPairs := ⟨gt_3 159 rfl rfl, gt_sel (q := (yX6_byPairs, 7)) (by decide +kernel), _, rfl, rfl⟩
set_option maxRecDepth 100000 in
theorem ko_X6_byWeights : kOk 1 mX6_byWeights := ⟨gt_1 6 rfl rfl, gt_3 165 rfl rfl, ⟨by decide +kernel, by decide +kernel, by decide +kernel⟩, Nat.le_of_ble_eq_true rfl, by decide +kernel⟩
set_option maxRecDepth 100000 in
theorem kv_X6_byWeights : vOk 6 mX6_byWeights := ⟨gt_3 164 rfl rfl, gt_sel (q := (yX6_byWeights, 7)) (by decide +kernel), _, rfl, rfl⟩
set_option maxRecDepth 100000 in
theorem ko_X6_bySteps : kOk 0 mX6_bySteps := ⟨gt_1 6 rfl rfl, gt_3 171 rfl rfl, ⟨by decide +kernel, by decide +kernel, by decide +kernel⟩, Nat.le_of_ble_eq_true rfl, by decide +kernel⟩
set_option maxRecDepth 100000 in
theorem kv_X6_bySteps : vOk 6 mX6_bySteps := ⟨gt_3 170 rfl rfl, gt_sel (q := (yX6_bySteps, 7)) (by decide +kernel), _, rfl, rfl⟩
set_option maxRecDepth 100000 in
theorem ko_X6_clippedMean : kOk 2 mX6_clippedMean := ⟨gt_1 6 rfl rfl, gt_3 180 rfl rfl, ⟨by decide +kernel, by decide +kernel, by decide +kernel⟩, Nat.le_of_ble_eq_true rfl, by decide +kernel⟩
set_option maxRecDepth 100000 in
theorem kv_X6_clippedMean : vOk 6 mX6_clippedMean := ⟨gt_3 179 rfl rfl, gt_sel (q := (yX6_clippedMean, 7)) (by decide +kernel), _, rfl, rfl⟩
set_option maxRecDepth 100000 in
theorem ko_X6_clippedSpread : kOk 1 mX6_clippedSpread := ⟨gt_1 6 rfl rfl, gt_3 190 rfl rfl, ⟨by decide +kernel, by decide +kernel, by decide +kernel⟩, Nat.le_of_ble_eq_true rfl, by decide +kernel⟩
set_option maxRecDepth 100000 in
theorem kv_X6_clippedSpread : vOk 6 mX6_clippedSpread := ⟨gt_3 189 rfl rfl, gt_sel (q := (yX6_clippedSpread, 7)) (by decide +kernel), _, rfl, rfl⟩
set_option maxRecDepth 100000 in
theorem ko_X6_root : kOk 1 mX6_root := ⟨gt_1 6 rfl rfl, gt_3 195 rfl rfl, ⟨by decide +kernel, by decide +kernel, by decide +kernel⟩, Nat.le_of_ble_eq_true rfl, by decide +kernel⟩
set_option maxRecDepth 100000 in
theorem ks_X6_root : Cond.static yX6_root ∈ gt := gt_3 194 rfl rfl
set_option maxRecDepth 100000 in
theorem ko_X6_markOf : kOk 2 mX6_markOf := ⟨gt_1 6 rfl rfl, gt_3 207 rfl rfl, ⟨by decide +kernel, by decide +kernel, by decide +kernel⟩, Nat.le_of_ble_eq_true rfl, by decide +kernel⟩
set_option maxRecDepth 100000 in
theorem kv_X6_markOf : vOk 6 mX6_markOf := ⟨gt_3 205 rfl rfl, gt_3 206 rfl rfl, _, rfl, rfl⟩
set_option maxRecDepth 100000 in
theorem ko_X6_longestRun : kOk 1 mX6_longestRun := ⟨gt_1 6 rfl rfl, gt_3 221 rfl rfl, ⟨by decide +kernel, by decide +kernel, by decide +kernel⟩, Nat.le_of_ble_eq_true rfl, by decide +kernel⟩
set_option maxRecDepth 100000 in
theorem kv_X6_longestRun : vOk 6 mX6_longestRun := ⟨gt_3 219 rfl rfl, gt_3 220 rfl rfl, _, rfl, rfl⟩
set_option maxRecDepth 100000 in
theorem ko_X7_takesPart : kOk 2 mX7_takesPart := ⟨gt_1 3 rfl rfl, gt_3 30 rfl rfl, ⟨by decide +kernel, by decide +kernel, by decide +kernel⟩, Nat.le_of_ble_eq_true rfl, by decide +kernel⟩
set_option maxRecDepth 100000 in
theorem kv_X7_takesPart : vOk 7 mX7_takesPart := ⟨gt_3 28 rfl rfl, gt_3 29 rfl rfl, _, rfl, rfl⟩
set_option maxRecDepth 100000 in
theorem ko_X7_takingPart : kOk 1 mX7_takingPart := ⟨gt_1 3 rfl rfl, gt_3 56 rfl rfl, ⟨by decide +kernel, by decide +kernel, by decide +kernel⟩, Nat.le_of_ble_eq_true rfl, by decide +kernel⟩
set_option maxRecDepth 100000 in
theorem kv_X7_takingPart : vOk 7 mX7_takingPart := ⟨gt_3 54 rfl rfl, gt_3 55 rfl rfl, _, rfl, rfl⟩
set_option maxRecDepth 100000 in
theorem ko_X7_renew : kOk 1 mX7_renew := ⟨gt_1 3 rfl rfl, gt_2 172 rfl rfl, ⟨by decide +kernel, by decide +kernel, by decide +kernel⟩, Nat.le_of_ble_eq_true rfl, by decide +kernel⟩
set_option maxRecDepth 100000 in
theorem kv_X7_renew : vOk 7 mX7_renew := ⟨gt_2 170 rfl rfl, gt_2 171 rfl rfl, _, rfl, rfl⟩
set_option maxRecDepth 100000 in
theorem ko_X7_findPoints : kOk 1 mX7_findPoints := ⟨gt_1 3 rfl rfl, gt_2 176 rfl rfl, ⟨by decide +kernel, by decide +kernel, by decide +kernel⟩, Nat.le_of_ble_eq_true rfl, by decide +kernel⟩
set_option maxRecDepth 100000 in
theorem kv_X7_findPoints : vOk 7 mX7_findPoints := ⟨gt_2 175 rfl rfl, gt_sel (q := (yX7_findPoints, 9)) (by decide +kernel), _, rfl, rfl⟩
set_option maxRecDepth 100000 in
theorem ko_X7_addToPoint : kOk 3 mX7_addToPoint := ⟨gt_1 3 rfl rfl, gt_2 188 rfl rfl, ⟨by decide +kernel, by decide +kernel, by decide +kernel⟩, Nat.le_of_ble_eq_true rfl, by decide +kernel⟩
set_option maxRecDepth 100000 in
theorem kv_X7_addToPoint : vOk 7 mX7_addToPoint := ⟨gt_2 187 rfl rfl, gt_sel (q := (yX7_addToPoint, 9)) (by decide +kernel), _, rfl, rfl⟩
set_option maxRecDepth 100000 in
theorem ko_X7_openPoint : kOk 3 mX7_openPoint := ⟨gt_1 3 rfl rfl, gt_2 192 rfl rfl, ⟨by decide +kernel, by decide +kernel, by decide +kernel⟩, Nat.le_of_ble_eq_true rfl, by decide +kernel⟩
set_option maxRecDepth 100000 in
theorem kv_X7_openPoint : vOk 7 mX7_openPoint := ⟨gt_2 191 rfl rfl, gt_sel (q := (yX7_openPoint, 9)) (by decide +kernel), _, rfl, rfl⟩
set_option maxRecDepth 100000 in
theorem ko_X7_driftOn : kOk 2 mX7_driftOn := ⟨gt_1 3 rfl rfl, gt_2 200 rfl rfl, ⟨by decide +kernel, by decide +kernel, by decide +kernel⟩, Nat.le_of_ble_eq_true rfl, by decide +kernel⟩
set_option maxRecDepth 100000 in
theorem kv_X7_driftOn : vOk 7 mX7_driftOn := ⟨gt_2 198 rfl rfl, gt_2 199 rfl rfl, _, rfl, rfl⟩
set_option maxRecDepth 100000 in
theorem ko_X7_driftBetween : kOk 5 mX7_driftBetween := ⟨gt_1 3 rfl rfl, gt_2 204 rfl rfl, ⟨by decide +kernel, by decide +kernel, by decide +kernel⟩, Nat.le_of_ble_eq_true rfl, by decide +kernel⟩
set_option maxRecDepth 100000 in
theorem kv_X7_driftBetween : vOk 7 mX7_driftBetween := ⟨gt_2 203 rfl rfl, gt_sel (q := (yX7_driftBetween, 9)) (by decide +kernel), _, rfl, rfl⟩
set_option maxRecDepth 100000 in
theorem ko_X8_gather : kOk 1 mX8_gather := ⟨gt_1 8 rfl rfl, gt_4 1 rfl rfl, ⟨by decide +kernel, by decide +kernel, by decide +kernel⟩, Nat.le_of_ble_eq_true rfl, by decide +kernel⟩
set_option maxRecDepth 100000 in
theorem kv_X8_gather : vOk 8 mX8_gather := ⟨gt_3 239 rfl rfl, gt_4 0 rfl rfl, _, rfl, rfl⟩
set_option maxRecDepth 100000 in
theorem ko_X8_reckonWithin : kOk 2 mX8_reckonWithin := ⟨gt_1 8 rfl rfl, gt_3 236 rfl rfl, ⟨by decide +kernel, by decide +kernel, by decide +kernel⟩, Nat.le_of_ble_eq_true rfl, by decide +kernel⟩
set_option maxRecDepth 100000 in
theorem kv_X8_reckonWithin : vOk 8 mX8_reckonWithin := ⟨gt_3 234 rfl rfl, gt_3 235 rfl rfl, _, rfl, rfl⟩
set_option maxRecDepth 100000 in
theorem ko_X8_spread : kOk 2 mX8_spread := ⟨gt_1 8 rfl rfl, gt_4 9 rfl rfl, ⟨by decide +kernel, by decide +kernel, by decide +kernel⟩, Nat.le_of_ble_eq_true rfl, by decide +kernel⟩
set_option maxRecDepth 100000 in
theorem kv_X8_spread : vOk 8 mX8_spread := ⟨gt_4 8 rfl rfl, gt_sel (q := (yX8_spread, 5)) (by decide +kernel), _, rfl, rfl⟩
set_option maxRecDepth 100000 in
theorem ko_X8_scaledWithin : kOk 2 mX8_scaledWithin := ⟨gt_1 8 rfl rfl, gt_4 24 rfl rfl, ⟨by decide +kernel, by decide +kernel, by decide +kernel⟩, Nat.le_of_ble_eq_true rfl, by decide +kernel⟩
set_option maxRecDepth 100000 in
theorem kv_X8_scaledWithin : vOk 8 mX8_scaledWithin := ⟨gt_4 23 rfl rfl, gt_sel (q := (yX8_scaledWithin, 5)) (by decide +kernel), _, rfl, rfl⟩
set_option maxRecDepth 100000 in
theorem ko_X8_widestOf : kOk 1 mX8_widestOf := ⟨gt_1 8 rfl rfl, gt_4 19 rfl rfl, ⟨by decide +kernel, by decide +kernel, by decide +kernel⟩, Nat.le_of_ble_eq_true rfl, by decide +kernel⟩
set_option maxRecDepth 100000 in
theorem kv_X8_widestOf : vOk 8 mX8_widestOf := ⟨gt_4 17 rfl rfl, gt_4 18 rfl rfl, _, rfl, rfl⟩
set_option maxRecDepth 100000 in
theorem ko_X8_reckonShare : kOk 1 mX8_reckonShare := ⟨gt_1 8 rfl rfl, gt_4 32 rfl rfl, ⟨by decide +kernel, by decide +kernel, by decide +kernel⟩, Nat.le_of_ble_eq_true rfl, by decide +kernel⟩
set_option maxRecDepth 100000 in
theorem kv_X8_reckonShare : vOk 8 mX8_reckonShare := ⟨gt_4 30 rfl rfl, gt_4 31 rfl rfl, _, rfl, rfl⟩
set_option maxRecDepth 100000 in
theorem ko_X8_likeMany : kOk 1 mX8_likeMany := ⟨gt_1 8 rfl rfl, gt_4 46 rfl rfl, ⟨by decide +kernel, by decide +kernel, by decide +kernel⟩, Nat.le_of_ble_eq_true rfl, by decide +kernel⟩
set_option maxRecDepth 100000 in
theorem kv_X8_likeMany : vOk 8 mX8_likeMany := ⟨gt_4 45 rfl rfl, gt_sel (q := (yX8_likeMany, 5)) (by decide +kernel), _, rfl, rfl⟩
set_option maxRecDepth 100000 in
theorem ko_X8_reckonPart : kOk 2 mX8_reckonPart := ⟨gt_1 8 rfl rfl, gt_4 42 rfl rfl, ⟨by decide +kernel, by decide +kernel, by decide +kernel⟩, Nat.le_of_ble_eq_true rfl, by decide +kernel⟩
set_option maxRecDepth 100000 in
theorem kv_X8_reckonPart : vOk 8 mX8_reckonPart := ⟨gt_4 40 rfl rfl, gt_4 41 rfl rfl, _, rfl, rfl⟩
set_option maxRecDepth 100000 in
theorem ko_X9_find : kOk 1 mX9_find := ⟨gt_1 11 rfl rfl, gt_2 227 rfl rfl, ⟨by decide +kernel, by decide +kernel, by decide +kernel⟩, Nat.le_of_ble_eq_true rfl, by decide +kernel⟩
set_option maxRecDepth 100000 in
theorem kv_X9_find : vOk 9 mX9_find := ⟨gt_2 225 rfl rfl, gt_2 226 rfl rfl, _, rfl, rfl⟩
set_option maxRecDepth 100000 in
theorem ko_X9_isLost : kOk 1 mX9_isLost := ⟨gt_1 11 rfl rfl, gt_2 223 rfl rfl, ⟨by decide +kernel, by decide +kernel, by decide +kernel⟩, Nat.le_of_ble_eq_true rfl, by decide +kernel⟩
set_option maxRecDepth 100000 in
theorem kv_X9_isLost : vOk 9 mX9_isLost := ⟨gt_2 221 rfl rfl, gt_2 222 rfl rfl, _, rfl, rfl⟩
set_option maxRecDepth 100000 in
theorem ko_X9_make : kOk 3 mX9_make := ⟨gt_1 11 rfl rfl, gt_4 133 rfl rfl, ⟨by decide +kernel, by decide +kernel, by decide +kernel⟩, Nat.le_of_ble_eq_true rfl, by decide +kernel⟩
set_option maxRecDepth 100000 in
theorem kv_X9_make : vOk 9 mX9_make := ⟨gt_4 131 rfl rfl, gt_4 132 rfl rfl, _, rfl, rfl⟩
set_option maxRecDepth 100000 in
theorem ko_X9_against : kOk 3 mX9_against := ⟨gt_1 11 rfl rfl, gt_4 145 rfl rfl, ⟨by decide +kernel, by decide +kernel, by decide +kernel⟩, Nat.le_of_ble_eq_true rfl, by decide +kernel⟩
set_option maxRecDepth 100000 in
theorem kv_X9_against : vOk 9 mX9_against := ⟨gt_4 143 rfl rfl, gt_4 144 rfl rfl, _, rfl, rfl⟩
set_option maxRecDepth 100000 in
theorem ko_X9_holds : kOk 3 mX9_holds := ⟨gt_1 11 rfl rfl, gt_4 162 rfl rfl, ⟨by decide +kernel, by decide +kernel, by decide +kernel⟩, Nat.le_of_ble_eq_true rfl, by decide +kernel⟩
set_option maxRecDepth 100000 in
theorem kv_X9_holds : vOk 9 mX9_holds := ⟨gt_4 160 rfl rfl, gt_4 161 rfl rfl, _, rfl, rfl⟩
set_option maxRecDepth 100000 in
theorem ko_X9_store : kOk 3 mX9_store := ⟨gt_1 11 rfl rfl, gt_4 150 rfl rfl, ⟨by decide +kernel, by decide +kernel, by decide +kernel⟩, Nat.le_of_ble_eq_true rfl, by decide +kernel⟩
set_option maxRecDepth 100000 in
theorem kv_X9_store : vOk 9 mX9_store := ⟨gt_4 148 rfl rfl, gt_4 149 rfl rfl, _, rfl, rfl⟩
set_option maxRecDepth 100000 in
theorem ko_X10_pass : kOk 1 mX10_pass := ⟨gt_1 1 rfl rfl, gt_2 129 rfl rfl, ⟨by decide +kernel, by decide +kernel, by decide +kernel⟩, Nat.le_of_ble_eq_true rfl, by decide +kernel⟩
set_option maxRecDepth 100000 in
theorem kv_X10_pass : vOk 10 mX10_pass := ⟨gt_2 127 rfl rfl, gt_2 128 rfl rfl, _, rfl, rfl⟩
set_option maxRecDepth 100000 in
theorem ko_X10_house : kOk 1 mX10_house := ⟨gt_1 1 rfl rfl, gt_2 133 rfl rfl, ⟨by decide +kernel, by decide +kernel, by decide +kernel⟩, Nat.le_of_ble_eq_true rfl, by decide +kernel⟩
set_option maxRecDepth 100000 in
theorem kv_X10_house : vOk 10 mX10_house := ⟨gt_2 131 rfl rfl, gt_2 132 rfl rfl, _, rfl, rfl⟩
set_option maxRecDepth 100000 in
theorem ko_X10_doubt : kOk 2 mX10_doubt := ⟨gt_1 1 rfl rfl, gt_2 141 rfl rfl, ⟨by decide +kernel, by decide +kernel, by decide +kernel⟩, Nat.le_of_ble_eq_true rfl, by decide +kernel⟩
set_option maxRecDepth 100000 in
theorem kv_X10_doubt : vOk 10 mX10_doubt := ⟨gt_2 139 rfl rfl, gt_2 140 rfl rfl, _, rfl, rfl⟩
set_option maxRecDepth 100000 in
theorem ko_X10_reading : kOk 4 mX10_reading := ⟨gt_1 1 rfl rfl, gt_2 153 rfl rfl, ⟨by decide +kernel, by decide +kernel, by decide +kernel⟩, Nat.le_of_ble_eq_true rfl, by decide +kernel⟩
set_option maxRecDepth 100000 in
theorem kv_X10_reading : vOk 10 mX10_reading := ⟨gt_2 151 rfl rfl, gt_2 152 rfl rfl, _, rfl, rfl⟩
set_option maxRecDepth 100000 in
theorem ko_X10_read : kOk 1 mX10_read := ⟨gt_1 1 rfl rfl, gt_2 216 rfl rfl, ⟨by decide +kernel, by decide +kernel, by decide +kernel⟩, Nat.le_of_ble_eq_true rfl, by decide +kernel⟩
set_option maxRecDepth 100000 in
theorem kv_X10_read : vOk 10 mX10_read := ⟨gt_2 214 rfl rfl, gt_2 215 rfl rfl, _, rfl, rfl⟩
set_option maxRecDepth 100000 in
theorem ko_X10_takeBack : kOk 1 mX10_takeBack := ⟨gt_1 1 rfl rfl, gt_2 231 rfl rfl, ⟨by decide +kernel, by decide +kernel, by decide +kernel⟩, Nat.le_of_ble_eq_true rfl, by decide +kernel⟩
set_option maxRecDepth 100000 in
theorem kv_X10_takeBack : vOk 10 mX10_takeBack := ⟨gt_2 229 rfl rfl, gt_2 230 rfl rfl, _, rfl, rfl⟩
set_option maxRecDepth 100000 in
theorem ko_X10_about : kOk 2 mX10_about := ⟨gt_1 1 rfl rfl, gt_2 239 rfl rfl, ⟨by decide +kernel, by decide +kernel, by decide +kernel⟩, Nat.le_of_ble_eq_true rfl, by decide +kernel⟩
set_option maxRecDepth 100000 in
theorem kv_X10_about : vOk 10 mX10_about := ⟨gt_2 237 rfl rfl, gt_2 238 rfl rfl, _, rfl, rfl⟩
set_option maxRecDepth 100000 in
theorem ko_X10_asOf : kOk 1 mX10_asOf := ⟨gt_1 1 rfl rfl, gt_3 4 rfl rfl, ⟨by decide +kernel, by decide +kernel, by decide +kernel⟩, Nat.le_of_ble_eq_true rfl, by decide +kernel⟩
set_option maxRecDepth 100000 in
theorem kv_X10_asOf : vOk 10 mX10_asOf := ⟨gt_3 2 rfl rfl, gt_3 3 rfl rfl, _, rfl, rfl⟩
set_option maxRecDepth 100000 in
theorem ko_X10_factor : kOk 1 mX10_factor := ⟨gt_1 1 rfl rfl, gt_3 8 rfl rfl, ⟨by decide +kernel, by decide +kernel, by decide +kernel⟩, Nat.le_of_ble_eq_true rfl, by decide +kernel⟩
set_option maxRecDepth 100000 in
theorem kv_X10_factor : vOk 10 mX10_factor := ⟨gt_3 6 rfl rfl, gt_3 7 rfl rfl, _, rfl, rfl⟩
set_option maxRecDepth 100000 in
theorem ko_X10_drift : kOk 2 mX10_drift := ⟨gt_1 1 rfl rfl, gt_3 16 rfl rfl, ⟨by decide +kernel, by decide +kernel, by decide +kernel⟩, Nat.le_of_ble_eq_true rfl, by decide +kernel⟩
set_option maxRecDepth 100000 in
theorem kv_X10_drift : vOk 10 mX10_drift := ⟨gt_3 14 rfl rfl, gt_3 15 rfl rfl, _, rfl, rfl⟩
set_option maxRecDepth 100000 in
theorem ko_X10_many : kOk 2 mX10_many := ⟨gt_1 1 rfl rfl, gt_3 22 rfl rfl, ⟨by decide +kernel, by decide +kernel, by decide +kernel⟩, Nat.le_of_ble_eq_true rfl, by decide +kernel⟩
set_option maxRecDepth 100000 in
theorem kv_X10_many : vOk 10 mX10_many := ⟨gt_3 20 rfl rfl, gt_3 21 rfl rfl, _, rfl, rfl⟩
set_option maxRecDepth 100000 in
theorem ko_X10_told : kOk 2 mX10_told := ⟨gt_1 1 rfl rfl, gt_3 26 rfl rfl, ⟨by decide +kernel, by decide +kernel, by decide +kernel⟩, Nat.le_of_ble_eq_true rfl, by decide +kernel⟩
set_option maxRecDepth 100000 in
theorem kv_X10_told : vOk 10 mX10_told := ⟨gt_3 24 rfl rfl, gt_3 25 rfl rfl, _, rfl, rfl⟩
set_option maxRecDepth 100000 in
theorem ko_X10_agree : kOk 3 mX10_agree := ⟨gt_1 1 rfl rfl, gt_3 35 rfl rfl, ⟨by decide +kernel, by decide +kernel, by decide +kernel⟩, Nat.le_of_ble_eq_true rfl, by decide +kernel⟩
set_option maxRecDepth 100000 in
theorem kv_X10_agree : vOk 10 mX10_agree := ⟨gt_3 33 rfl rfl, gt_3 34 rfl rfl, _, rfl, rfl⟩
set_option maxRecDepth 100000 in
theorem ko_X10_agreeing : kOk 1 mX10_agreeing := ⟨gt_1 1 rfl rfl, gt_3 48 rfl rfl, ⟨by decide +kernel, by decide +kernel, by decide +kernel⟩, Nat.le_of_ble_eq_true rfl, by decide +kernel⟩
set_option maxRecDepth 100000 in
theorem kv_X10_agreeing : vOk 10 mX10_agreeing := ⟨gt_3 46 rfl rfl, gt_3 47 rfl rfl, _, rfl, rfl⟩
set_option maxRecDepth 100000 in
theorem ko_X10_common : kOk 2 mX10_common := ⟨gt_1 1 rfl rfl, gt_3 75 rfl rfl, ⟨by decide +kernel, by decide +kernel, by decide +kernel⟩, Nat.le_of_ble_eq_true rfl, by decide +kernel⟩
set_option maxRecDepth 100000 in
theorem kv_X10_common : vOk 10 mX10_common := ⟨gt_3 73 rfl rfl, gt_3 74 rfl rfl, _, rfl, rfl⟩
set_option maxRecDepth 100000 in
theorem ko_X10_chain : kOk 2 mX10_chain := ⟨gt_1 1 rfl rfl, gt_3 95 rfl rfl, ⟨by decide +kernel, by decide +kernel, by decide +kernel⟩, Nat.le_of_ble_eq_true rfl, by decide +kernel⟩
set_option maxRecDepth 100000 in
theorem kv_X10_chain : vOk 10 mX10_chain := ⟨gt_3 93 rfl rfl, gt_3 94 rfl rfl, _, rfl, rfl⟩
set_option maxRecDepth 100000 in
theorem ko_X10_via : kOk 2 mX10_via := ⟨gt_1 1 rfl rfl, gt_3 118 rfl rfl, ⟨by decide +kernel, by decide +kernel, by decide +kernel⟩, Nat.le_of_ble_eq_true rfl, by decide +kernel⟩
set_option maxRecDepth 100000 in
theorem kv_X10_via : vOk 10 mX10_via := ⟨gt_3 116 rfl rfl, gt_3 117 rfl rfl, _, rfl, rfl⟩
set_option maxRecDepth 100000 in
theorem ko_X10_number : kOk 3 mX10_number := ⟨gt_1 1 rfl rfl, gt_3 126 rfl rfl, ⟨by decide +kernel, by decide +kernel, by decide +kernel⟩, Nat.le_of_ble_eq_true rfl, by decide +kernel⟩
set_option maxRecDepth 100000 in
theorem kv_X10_number : vOk 10 mX10_number := ⟨gt_3 124 rfl rfl, gt_3 125 rfl rfl, _, rfl, rfl⟩
set_option maxRecDepth 100000 in
theorem ko_X10_mark : kOk 2 mX10_mark := ⟨gt_1 1 rfl rfl, gt_3 203 rfl rfl, ⟨by decide +kernel, by decide +kernel, by decide +kernel⟩, Nat.le_of_ble_eq_true rfl, by decide +kernel⟩
set_option maxRecDepth 100000 in
theorem kv_X10_mark : vOk 10 mX10_mark := ⟨gt_3 201 rfl rfl, gt_3 202 rfl rfl, _, rfl, rfl⟩
set_option maxRecDepth 100000 in
theorem ko_X10_judged : kOk 2 mX10_judged := ⟨gt_1 1 rfl rfl, gt_3 212 rfl rfl, ⟨by decide +kernel, by decide +kernel, by decide +kernel⟩, Nat.le_of_ble_eq_true rfl, by decide +kernel⟩
set_option maxRecDepth 100000 in
theorem kv_X10_judged : vOk 10 mX10_judged := ⟨gt_3 210 rfl rfl, gt_3 211 rfl rfl, _, rfl, rfl⟩
set_option maxRecDepth 100000 in
theorem ko_X10_run : kOk 1 mX10_run := ⟨gt_1 1 rfl rfl, gt_3 217 rfl rfl, ⟨by decide +kernel, by decide +kernel, by decide +kernel⟩, Nat.le_of_ble_eq_true rfl, by decide +kernel⟩
set_option maxRecDepth 100000 in
theorem kv_X10_run : vOk 10 mX10_run := ⟨gt_3 215 rfl rfl, gt_3 216 rfl rfl, _, rfl, rfl⟩
set_option maxRecDepth 100000 in
theorem ko_X10_within : kOk 3 mX10_within := ⟨gt_1 1 rfl rfl, gt_3 232 rfl rfl, ⟨by decide +kernel, by decide +kernel, by decide +kernel⟩, Nat.le_of_ble_eq_true rfl, by decide +kernel⟩
set_option maxRecDepth 100000 in
theorem kv_X10_within : vOk 10 mX10_within := ⟨gt_3 230 rfl rfl, gt_3 231 rfl rfl, _, rfl, rfl⟩
set_option maxRecDepth 100000 in
theorem ko_X10_widest : kOk 1 mX10_widest := ⟨gt_1 1 rfl rfl, gt_4 14 rfl rfl, ⟨by decide +kernel, by decide +kernel, by decide +kernel⟩, Nat.le_of_ble_eq_true rfl, by decide +kernel⟩
set_option maxRecDepth 100000 in
theorem kv_X10_widest : vOk 10 mX10_widest := ⟨gt_4 12 rfl rfl, gt_4 13 rfl rfl, _, rfl, rfl⟩
set_option maxRecDepth 100000 in
theorem ko_X10_share : kOk 2 mX10_share := ⟨gt_1 1 rfl rfl, gt_4 28 rfl rfl, ⟨by decide +kernel, by decide +kernel, by decide +kernel⟩, Nat.le_of_ble_eq_true rfl, by decide +kernel⟩
set_option maxRecDepth 100000 in
theorem kv_X10_share : vOk 10 mX10_share := ⟨gt_4 26 rfl rfl, gt_4 27 rfl rfl, _, rfl, rfl⟩
set_option maxRecDepth 100000 in
theorem ko_X10_parts : kOk 3 mX10_parts := ⟨gt_1 1 rfl rfl, gt_4 38 rfl rfl, ⟨by decide +kernel, by decide +kernel, by decide +kernel⟩, Nat.le_of_ble_eq_true rfl, by decide +kernel⟩
set_option maxRecDepth 100000 in
theorem kv_X10_parts : vOk 10 mX10_parts := ⟨gt_4 36 rfl rfl, gt_4 37 rfl rfl, _, rfl, rfl⟩
set_option maxRecDepth 100000 in
theorem ko_X10_ways : kOk 2 mX10_ways := ⟨gt_1 1 rfl rfl, gt_4 53 rfl rfl, ⟨by decide +kernel, by decide +kernel, by decide +kernel⟩, Nat.le_of_ble_eq_true rfl, by decide +kernel⟩
set_option maxRecDepth 100000 in
theorem kv_X10_ways : vOk 10 mX10_ways := ⟨gt_4 51 rfl rfl, gt_4 52 rfl rfl, _, rfl, rfl⟩
set_option maxRecDepth 100000 in
theorem ko_X10_score : kOk 1 mX10_score := ⟨gt_1 1 rfl rfl, gt_4 74 rfl rfl, ⟨by decide +kernel, by decide +kernel, by decide +kernel⟩, Nat.le_of_ble_eq_true rfl, by decide +kernel⟩
set_option maxRecDepth 100000 in
theorem kv_X10_score : vOk 10 mX10_score := ⟨gt_4 72 rfl rfl, gt_4 73 rfl rfl, _, rfl, rfl⟩
set_option maxRecDepth 100000 in
theorem ko_X10_type : kOk 1 mX10_type := ⟨gt_1 1 rfl rfl, gt_4 78 rfl rfl, ⟨by decide +kernel, by decide +kernel, by decide +kernel⟩, Nat.le_of_ble_eq_true rfl, by decide +kernel⟩
set_option maxRecDepth 100000 in
theorem kv_X10_type : vOk 10 mX10_type := ⟨gt_4 76 rfl rfl, gt_4 77 rfl rfl, _, rfl, rfl⟩
set_option maxRecDepth 100000 in
theorem ko_X10_wipe : kOk 0 mX10_wipe := ⟨gt_1 1 rfl rfl, gt_4 86 rfl rfl, ⟨by decide +kernel, by decide +kernel, by decide +kernel⟩, Nat.le_of_ble_eq_true rfl, by decide +kernel⟩
set_option maxRecDepth 100000 in
theorem kv_X10_wipe : vOk 10 mX10_wipe := ⟨gt_4 84 rfl rfl, gt_4 85 rfl rfl, _, rfl, rfl⟩
set_option maxRecDepth 100000 in
theorem ko_X10_fault : kOk 0 mX10_fault := ⟨gt_1 1 rfl rfl, gt_4 90 rfl rfl, ⟨by decide +kernel, by decide +kernel, by decide +kernel⟩, Nat.le_of_ble_eq_true rfl, by decide +kernel⟩
set_option maxRecDepth 100000 in
theorem kv_X10_fault : vOk 10 mX10_fault := ⟨gt_4 88 rfl rfl, gt_4 89 rfl rfl, _, rfl, rfl⟩
set_option maxRecDepth 100000 in
theorem ko_X10_reckon : kOk 0 mX10_reckon := ⟨gt_1 1 rfl rfl, gt_4 114 rfl rfl, ⟨by decide +kernel, by decide +kernel, by decide +kernel⟩, Nat.le_of_ble_eq_true rfl, by decide +kernel⟩
set_option maxRecDepth 100000 in
theorem kv_X10_reckon : vOk 10 mX10_reckon := ⟨gt_4 112 rfl rfl, gt_4 113 rfl rfl, _, rfl, rfl⟩
set_option maxRecDepth 100000 in
theorem ko_X10_claim : kOk 1 mX10_claim := ⟨gt_1 1 rfl rfl, gt_4 122 rfl rfl, ⟨by decide +kernel, by decide +kernel, by decide +kernel⟩, Nat.le_of_ble_eq_true rfl, by decide +kernel⟩
set_option maxRecDepth 100000 in
theorem kv_X10_claim : vOk 10 mX10_claim := ⟨gt_4 120 rfl rfl, gt_4 121 rfl rfl, _, rfl, rfl⟩
set_option maxRecDepth 100000 in
theorem ko_X10_sheet : kOk 3 mX10_sheet := ⟨gt_1 1 rfl rfl, gt_4 126 rfl rfl, ⟨by decide +kernel, by decide +kernel, by decide +kernel⟩, Nat.le_of_ble_eq_true rfl, by decide +kernel⟩
set_option maxRecDepth 100000 in
theorem kv_X10_sheet : vOk 10 mX10_sheet := ⟨gt_4 124 rfl rfl, gt_4 125 rfl rfl, _, rfl, rfl⟩
set_option maxRecDepth 100000 in
theorem ko_X10_lose : kOk 1 mX10_lose := ⟨gt_1 1 rfl rfl, gt_4 137 rfl rfl, ⟨by decide +kernel, by decide +kernel, by decide +kernel⟩, Nat.le_of_ble_eq_true rfl, by decide +kernel⟩
set_option maxRecDepth 100000 in
theorem kv_X10_lose : vOk 10 mX10_lose := ⟨gt_4 135 rfl rfl, gt_4 136 rfl rfl, _, rfl, rfl⟩
set_option maxRecDepth 100000 in
theorem ko_X10_put : kOk 4 mX10_put := ⟨gt_1 1 rfl rfl, gt_4 141 rfl rfl, ⟨by decide +kernel, by decide +kernel, by decide +kernel⟩, Nat.le_of_ble_eq_true rfl, by decide +kernel⟩
set_option maxRecDepth 100000 in
theorem kv_X10_put : vOk 10 mX10_put := ⟨gt_4 139 rfl rfl, gt_4 140 rfl rfl, _, rfl, rfl⟩
set_option maxRecDepth 100000 in
theorem ko_X10_get : kOk 3 mX10_get := ⟨gt_1 1 rfl rfl, gt_4 154 rfl rfl, ⟨by decide +kernel, by decide +kernel, by decide +kernel⟩, Nat.le_of_ble_eq_true rfl, by decide +kernel⟩
set_option maxRecDepth 100000 in
theorem kv_X10_get : vOk 10 mX10_get := ⟨gt_4 152 rfl rfl, gt_4 153 rfl rfl, _, rfl, rfl⟩
set_option maxRecDepth 100000 in
theorem ko_X10_copy : kOk 5 mX10_copy := ⟨gt_1 1 rfl rfl, gt_4 158 rfl rfl, ⟨by decide +kernel, by decide +kernel, by decide +kernel⟩, Nat.le_of_ble_eq_true rfl, by decide +kernel⟩
set_option maxRecDepth 100000 in
theorem kv_X10_copy : vOk 10 mX10_copy := ⟨gt_4 156 rfl rfl, gt_4 157 rfl rfl, _, rfl, rfl⟩
set_option maxRecDepth 100000 in
theorem ko_X10_write : kOk 2 mX10_write := ⟨gt_1 1 rfl rfl, gt_4 169 rfl rfl, ⟨by decide +kernel, by decide +kernel, by decide +kernel⟩, Nat.le_of_ble_eq_true rfl, by decide +kernel⟩
set_option maxRecDepth 100000 in
theorem kv_X10_write : vOk 10 mX10_write := ⟨gt_4 167 rfl rfl, gt_4 168 rfl rfl, _, rfl, rfl⟩
set_option maxRecDepth 100000 in
theorem ko_X10_count : kOk 1 mX10_count := ⟨gt_1 1 rfl rfl, gt_4 176 rfl rfl, ⟨by decide +kernel, by decide +kernel, by decide +kernel⟩, Nat.le_of_ble_eq_true rfl, by decide +kernel⟩
set_option maxRecDepth 100000 in
theorem kv_X10_count : vOk 10 mX10_count := ⟨gt_4 174 rfl rfl, gt_4 175 rfl rfl, _, rfl, rfl⟩
set_option maxRecDepth 100000 in
theorem ko_X10_digest : kOk 0 mX10_digest := ⟨gt_1 1 rfl rfl, gt_4 186 rfl rfl, ⟨by decide +kernel, by decide +kernel, by decide +kernel⟩, Nat.le_of_ble_eq_true rfl, by decide +kernel⟩
set_option maxRecDepth 100000 in
theorem kv_X10_digest : vOk 10 mX10_digest := ⟨gt_4 184 rfl rfl, gt_4 185 rfl rfl, _, rfl, rfl⟩
set_option maxRecDepth 100000 in
theorem ko_X10_digestPiece : kOk 2 mX10_digestPiece := ⟨gt_1 1 rfl rfl, gt_4 194 rfl rfl, ⟨by decide +kernel, by decide +kernel, by decide +kernel⟩, Nat.le_of_ble_eq_true rfl, by decide +kernel⟩
set_option maxRecDepth 100000 in
theorem kv_X10_digestPiece : vOk 10 mX10_digestPiece := ⟨gt_4 193 rfl rfl, gt_sel (q := (yX10_digestPiece, 9)) (by decide +kernel), _, rfl, rfl⟩
set_option maxRecDepth 100000 in
theorem ko_X10_tell : kOk 4 mX10_tell := ⟨gt_1 1 rfl rfl, gt_2 157 rfl rfl, ⟨by decide +kernel, by decide +kernel, by decide +kernel⟩, Nat.le_of_ble_eq_true rfl, by decide +kernel⟩
set_option maxRecDepth 100000 in
theorem kv_X10_tell : vOk 10 mX10_tell := ⟨gt_2 156 rfl rfl, gt_sel (q := (yX10_tell, 9)) (by decide +kernel), _, rfl, rfl⟩
set_option maxRecDepth 100000 in
theorem ko_X10_noHouse : kOk 1 mX10_noHouse := ⟨gt_1 1 rfl rfl, gt_2 145 rfl rfl, ⟨by decide +kernel, by decide +kernel, by decide +kernel⟩, Nat.le_of_ble_eq_true rfl, by decide +kernel⟩
set_option maxRecDepth 100000 in
theorem kv_X10_noHouse : vOk 10 mX10_noHouse := ⟨gt_2 144 rfl rfl, gt_sel (q := (yX10_noHouse, 9)) (by decide +kernel), _, rfl, rfl⟩
set_option maxRecDepth 100000 in
theorem ko_X10_noReading : kOk 1 mX10_noReading := ⟨gt_1 1 rfl rfl, gt_2 235 rfl rfl, ⟨by decide +kernel, by decide +kernel, by decide +kernel⟩, Nat.le_of_ble_eq_true rfl, by decide +kernel⟩
set_option maxRecDepth 100000 in
theorem kv_X10_noReading : vOk 10 mX10_noReading := ⟨gt_2 234 rfl rfl, gt_sel (q := (yX10_noReading, 9)) (by decide +kernel), _, rfl, rfl⟩
set_option maxRecDepth 100000 in
theorem ko_X10_noPiece : kOk 1 mX10_noPiece := ⟨gt_1 1 rfl rfl, gt_2 160 rfl rfl, ⟨by decide +kernel, by decide +kernel, by decide +kernel⟩, Nat.le_of_ble_eq_true rfl, by decide +kernel⟩
set_option maxRecDepth 100000 in
theorem ks_X10_noPiece : Cond.static yX10_noPiece ∈ gt := gt_2 159 rfl rfl
set_option maxRecDepth 100000 in
theorem ko_X10_noSheet : kOk 1 mX10_noSheet := ⟨gt_1 1 rfl rfl, gt_2 219 rfl rfl, ⟨by decide +kernel, by decide +kernel, by decide +kernel⟩, Nat.le_of_ble_eq_true rfl, by decide +kernel⟩
set_option maxRecDepth 100000 in
theorem ks_X10_noSheet : Cond.static yX10_noSheet ∈ gt := gt_2 218 rfl rfl
set_option maxRecDepth 100000 in
theorem ko_X10_noType : kOk 1 mX10_noType := ⟨gt_1 1 rfl rfl, gt_4 129 rfl rfl, ⟨by decide +kernel, by decide +kernel, by decide +kernel⟩, Nat.le_of_ble_eq_true rfl, by decide +kernel⟩
set_option maxRecDepth 100000 in
theorem ks_X10_noType : Cond.static yX10_noType ∈ gt := gt_4 128 rfl rfl
set_option maxRecDepth 100000 in
theorem ko_X10_refusal : kOk 1 mX10_refusal := ⟨gt_1 1 rfl rfl, gt_3 129 rfl rfl, ⟨by decide +kernel, by decide +kernel, by decide +kernel⟩, Nat.le_of_ble_eq_true rfl, by decide +kernel⟩
set_option maxRecDepth 100000 in
theorem ks_X10_refusal : Cond.static yX10_refusal ∈ gt := gt_3 128 rfl rfl
set_option maxRecDepth 100000 in
theorem ko_X10_nearest : kOk 2 mX10_nearest := ⟨gt_1 1 rfl rfl, gt_2 208 rfl rfl, ⟨by decide +kernel, by decide +kernel, by decide +kernel⟩, Nat.le_of_ble_eq_true rfl, by decide +kernel⟩
set_option maxRecDepth 100000 in
theorem ks_X10_nearest : Cond.static yX10_nearest ∈ gt := gt_2 207 rfl rfl
set_option maxRecDepth 100000 in
theorem ko_X10_putInOrder : kOk 3 mX10_putInOrder := ⟨gt_1 1 rfl rfl, gt_3 142 rfl rfl, ⟨by decide +kernel, by decide +kernel, by decide +kernel⟩, Nat.le_of_ble_eq_true rfl, by decide +kernel⟩
set_option maxRecDepth 100000 in
theorem ks_X10_putInOrder : Cond.static yX10_putInOrder ∈ gt := gt_3 141 rfl rfl
set_option maxRecDepth 100000 in
theorem ko_X11_in : kOk 3 mX11_in := ⟨gt_1 13 rfl rfl, gt_5 100 rfl rfl, ⟨by decide +kernel, by decide +kernel, by decide +kernel⟩, Nat.le_of_ble_eq_true rfl, by decide +kernel⟩
set_option maxRecDepth 100000 in
theorem ks_X11_in : Cond.static yX11_in ∈ gt := gt_5 99 rfl rfl
set_option maxRecDepth 100000 in
theorem ko_X11_amount : kOk 1 mX11_amount := ⟨gt_1 13 rfl rfl, gt_5 238 rfl rfl, ⟨by decide +kernel, by decide +kernel, by decide +kernel⟩, Nat.le_of_ble_eq_true rfl, by decide +kernel⟩
set_option maxRecDepth 100000 in
theorem ks_X11_amount : Cond.static yX11_amount ∈ gt := gt_5 237 rfl rfl
set_option maxRecDepth 100000 in
theorem ko_X11_down : kOk 2 mX11_down := ⟨gt_1 13 rfl rfl, gt_5 183 rfl rfl, ⟨by decide +kernel, by decide +kernel, by decide +kernel⟩, Nat.le_of_ble_eq_true rfl, by decide +kernel⟩
set_option maxRecDepth 100000 in
theorem ks_X11_down : Cond.static yX11_down ∈ gt := gt_5 182 rfl rfl
set_option maxRecDepth 100000 in
theorem ko_X11_near : kOk 2 mX11_near := ⟨gt_1 13 rfl rfl, gt_5 179 rfl rfl, ⟨by decide +kernel, by decide +kernel, by decide +kernel⟩, Nat.le_of_ble_eq_true rfl, by decide +kernel⟩
set_option maxRecDepth 100000 in
theorem ks_X11_near : Cond.static yX11_near ∈ gt := gt_5 178 rfl rfl
set_option maxRecDepth 100000 in
theorem ko_X11_divisor : kOk 2 mX11_divisor := ⟨gt_1 13 rfl rfl, gt_6 69 rfl rfl, ⟨by decide +kernel, by decide +kernel, by decide +kernel⟩, Nat.le_of_ble_eq_true rfl, by decide +kernel⟩
set_option maxRecDepth 100000 in
theorem ks_X11_divisor : Cond.static yX11_divisor ∈ gt := gt_6 68 rfl rfl
set_option maxRecDepth 100000 in
theorem ko_X11_lowest : kOk 3 mX11_lowest := ⟨gt_1 13 rfl rfl, gt_6 66 rfl rfl, ⟨by decide +kernel, by decide +kernel, by decide +kernel⟩, Nat.le_of_ble_eq_true rfl, by decide +kernel⟩
set_option maxRecDepth 100000 in
theorem ks_X11_lowest : Cond.static yX11_lowest ∈ gt := gt_6 65 rfl rfl
set_option maxRecDepth 100000 in
theorem ko_X11_isHouse : kOk 1 mX11_isHouse := ⟨gt_1 13 rfl rfl, gt_5 112 rfl rfl, ⟨by decide +kernel, by decide +kernel, by decide +kernel⟩, Nat.le_of_ble_eq_true rfl, by decide +kernel⟩
set_option maxRecDepth 100000 in
theorem kv_X11_isHouse : vOk 11 mX11_isHouse := ⟨gt_5 111 rfl rfl, gt_sel (q := (yX11_isHouse, 42)) (by decide +kernel), _, rfl, rfl⟩
set_option maxRecDepth 100000 in
theorem ko_X11_isPiece : kOk 1 mX11_isPiece := ⟨gt_1 13 rfl rfl, gt_5 123 rfl rfl, ⟨by decide +kernel, by decide +kernel, by decide +kernel⟩, Nat.le_of_ble_eq_true rfl, by decide +kernel⟩
set_option maxRecDepth 100000 in
theorem ks_X11_isPiece : Cond.static yX11_isPiece ∈ gt := gt_5 122 rfl rfl
set_option maxRecDepth 100000 in
theorem ko_X11_isKnown : kOk 1 mX11_isKnown := ⟨gt_1 13 rfl rfl, gt_5 146 rfl rfl, ⟨by decide +kernel, by decide +kernel, by decide +kernel⟩, Nat.le_of_ble_eq_true rfl, by decide +kernel⟩
set_option maxRecDepth 100000 in
theorem kv_X11_isKnown : vOk 11 mX11_isKnown := ⟨gt_5 145 rfl rfl, gt_sel (q := (yX11_isKnown, 42)) (by decide +kernel), _, rfl, rfl⟩
set_option maxRecDepth 100000 in
theorem ko_X11_pass : kOk 1 mX11_pass := ⟨gt_1 13 rfl rfl, gt_5 97 rfl rfl, ⟨by decide +kernel, by decide +kernel, by decide +kernel⟩, Nat.le_of_ble_eq_true rfl, by decide +kernel⟩
set_option maxRecDepth 100000 in
theorem kv_X11_pass : vOk 11 mX11_pass := ⟨gt_5 95 rfl rfl, gt_5 96 rfl rfl, _, rfl, rfl⟩
set_option maxRecDepth 100000 in
theorem ko_X11_house : kOk 1 mX11_house := ⟨gt_1 13 rfl rfl, gt_5 104 rfl rfl, ⟨by decide +kernel, by decide +kernel, by decide +kernel⟩, Nat.le_of_ble_eq_true rfl, by decide +kernel⟩
set_option maxRecDepth 100000 in
theorem kv_X11_house : vOk 11 mX11_house := ⟨gt_5 102 rfl rfl, gt_5 103 rfl rfl, _, rfl, rfl⟩
set_option maxRecDepth 100000 in
theorem ko_X11_doubt : kOk 2 mX11_doubt := ⟨gt_1 13 rfl rfl, gt_5 108 rfl rfl, ⟨by decide +kernel, by decide +kernel, by decide +kernel⟩, Nat.le_of_ble_eq_true rfl, by decide +kernel⟩
set_option maxRecDepth 100000 in
theorem kv_X11_doubt : vOk 11 mX11_doubt := ⟨gt_5 106 rfl rfl, gt_5 107 rfl rfl, _, rfl, rfl⟩
set_option maxRecDepth 100000 in
theorem ko_X11_readingMore : kOk 4 mX11_readingMore := ⟨gt_1 13 rfl rfl, gt_5 120 rfl rfl, ⟨by decide +kernel, by decide +kernel, by decide +kernel⟩, Nat.le_of_ble_eq_true rfl, by decide +kernel⟩
set_option maxRecDepth 100000 in
theorem kv_X11_readingMore : vOk 11 mX11_readingMore := ⟨gt_5 119 rfl rfl, gt_sel (q := (yX11_readingMore, 42)) (by decide +kernel), _, rfl, rfl⟩
set_option maxRecDepth 100000 in
theorem ko_X11_reading : kOk 4 mX11_reading := ⟨gt_1 13 rfl rfl, gt_5 116 rfl rfl, ⟨by decide +kernel, by decide +kernel, by decide +kernel⟩, Nat.le_of_ble_eq_true rfl, by decide +kernel⟩
set_option maxRecDepth 100000 in
theorem kv_X11_reading : vOk 11 mX11_reading := ⟨gt_5 114 rfl rfl, gt_5 115 rfl rfl, _, rfl, rfl⟩
set_option maxRecDepth 100000 in
theorem ko_X11_read : kOk 1 mX11_read := ⟨gt_1 13 rfl rfl, gt_5 127 rfl rfl, ⟨by decide +kernel, by decide +kernel, by decide +kernel⟩, Nat.le_of_ble_eq_true rfl, by decide +kernel⟩
set_option maxRecDepth 100000 in
theorem kv_X11_read : vOk 11 mX11_read := ⟨gt_5 125 rfl rfl, gt_5 126 rfl rfl, _, rfl, rfl⟩
set_option maxRecDepth 100000 in
theorem ko_X11_takeBack : kOk 1 mX11_takeBack := ⟨gt_1 13 rfl rfl, gt_5 138 rfl rfl, ⟨by decide +kernel, by decide +kernel, by decide +kernel⟩, Nat.le_of_ble_eq_true rfl, by decide +kernel⟩
set_option maxRecDepth 100000 in
theorem kv_X11_takeBack : vOk 11 mX11_takeBack := ⟨gt_5 136 rfl rfl, gt_5 137 rfl rfl, _, rfl, rfl⟩
set_option maxRecDepth 100000 in
theorem ko_X11_about : kOk 2 mX11_about := ⟨gt_1 13 rfl rfl, gt_5 142 rfl rfl, ⟨by decide +kernel, by decide +kernel, by decide +kernel⟩, Nat.le_of_ble_eq_true rfl, by decide +kernel⟩
set_option maxRecDepth 100000 in
theorem kv_X11_about : vOk 11 mX11_about := ⟨gt_5 140 rfl rfl, gt_5 141 rfl rfl, _, rfl, rfl⟩
set_option maxRecDepth 100000 in
theorem ko_X11_asOf : kOk 1 mX11_asOf := ⟨gt_1 13 rfl rfl, gt_5 150 rfl rfl, ⟨by decide +kernel, by decide +kernel, by decide +kernel⟩, Nat.le_of_ble_eq_true rfl, by decide +kernel⟩
set_option maxRecDepth 100000 in
theorem kv_X11_asOf : vOk 11 mX11_asOf := ⟨gt_5 148 rfl rfl, gt_5 149 rfl rfl, _, rfl, rfl⟩
set_option maxRecDepth 100000 in
theorem ko_X11_factor : kOk 1 mX11_factor := ⟨gt_1 13 rfl rfl, gt_5 154 rfl rfl, ⟨by decide +kernel, by decide +kernel, by decide +kernel⟩, Nat.le_of_ble_eq_true rfl, by decide +kernel⟩
set_option maxRecDepth 100000 in
theorem kv_X11_factor : vOk 11 mX11_factor := ⟨gt_5 152 rfl rfl, gt_5 153 rfl rfl, _, rfl, rfl⟩
set_option maxRecDepth 100000 in
theorem ko_X11_points : kOk 1 mX11_points := ⟨gt_1 13 rfl rfl, gt_5 167 rfl rfl, ⟨by decide +kernel, by decide +kernel, by decide +kernel⟩, Nat.le_of_ble_eq_true rfl, by decide +kernel⟩
set_option maxRecDepth 100000 in
theorem kv_X11_points : vOk 11 mX11_points := ⟨gt_5 166 rfl rfl, gt_sel (q := (yX11_points, 42)) (by decide +kernel), _, rfl, rfl⟩
set_option maxRecDepth 100000 in
theorem ko_X11_driftOf : kOk 2 mX11_driftOf := ⟨gt_1 13 rfl rfl, gt_5 176 rfl rfl, ⟨by decide +kernel, by decide +kernel, by decide +kernel⟩, Nat.le_of_ble_eq_true rfl, by decide +kernel⟩
set_option maxRecDepth 100000 in
theorem kv_X11_driftOf : vOk 11 mX11_driftOf := ⟨gt_5 175 rfl rfl, gt_sel (q := (yX11_driftOf, 42)) (by decide +kernel), _, rfl, rfl⟩
set_option maxRecDepth 100000 in
theorem ko_X11_works : kOk 0 mX11_works := ⟨gt_1 13 rfl rfl, gt_5 163 rfl rfl, ⟨by decide +kernel, by decide +kernel, by decide +kernel⟩, Nat.le_of_ble_eq_true rfl, by decide +kernel⟩
set_option maxRecDepth 100000 in
theorem kv_X11_works : vOk 11 mX11_works := ⟨gt_5 162 rfl rfl, gt_sel (q := (yX11_works, 42)) (by decide +kernel), _, rfl, rfl⟩
set_option maxRecDepth 100000 in
theorem ko_X11_reducedOf : kOk 1 mX11_reducedOf := ⟨gt_1 13 rfl rfl, gt_5 171 rfl rfl, ⟨by decide +kernel, by decide +kernel, by decide +kernel⟩, Nat.le_of_ble_eq_true rfl, by decide +kernel⟩
set_option maxRecDepth 100000 in
theorem kv_X11_reducedOf : vOk 11 mX11_reducedOf := ⟨gt_5 170 rfl rfl, gt_sel (q := (yX11_reducedOf, 42)) (by decide +kernel), _, rfl, rfl⟩
set_option maxRecDepth 100000 in
theorem ko_X11_drift : kOk 2 mX11_drift := ⟨gt_1 13 rfl rfl, gt_5 158 rfl rfl, ⟨by decide +kernel, by decide +kernel, by decide +kernel⟩, Nat.le_of_ble_eq_true rfl, by decide +kernel⟩
set_option maxRecDepth 100000 in
theorem kv_X11_drift : vOk 11 mX11_drift := ⟨gt_5 156 rfl rfl, gt_5 157 rfl rfl, _, rfl, rfl⟩
set_option maxRecDepth 100000 in
theorem ko_X11_takes : kOk 2 mX11_takes := ⟨gt_1 13 rfl rfl, gt_5 199 rfl rfl, ⟨by decide +kernel, by decide +kernel, by decide +kernel⟩, Nat.le_of_ble_eq_true rfl, by decide +kernel⟩
set_option maxRecDepth 100000 in
theorem kv_X11_takes : vOk 11 mX11_takes := ⟨gt_5 198 rfl rfl, gt_sel (q := (yX11_takes, 42)) (by decide +kernel), _, rfl, rfl⟩
set_option maxRecDepth 100000 in
theorem ko_X11_many : kOk 2 mX11_many := ⟨gt_1 13 rfl rfl, gt_5 187 rfl rfl, ⟨by decide +kernel, by decide +kernel, by decide +kernel⟩, Nat.le_of_ble_eq_true rfl, by decide +kernel⟩
set_option maxRecDepth 100000 in
theorem kv_X11_many : vOk 11 mX11_many := ⟨gt_5 185 rfl rfl, gt_5 186 rfl rfl, _, rfl, rfl⟩
set_option maxRecDepth 100000 in
theorem ko_X11_toldOf : kOk 2 mX11_toldOf := ⟨gt_1 13 rfl rfl, gt_5 203 rfl rfl, ⟨by decide +kernel, by decide +kernel, by decide +kernel⟩, Nat.le_of_ble_eq_true rfl, by decide +kernel⟩
set_option maxRecDepth 100000 in
theorem kv_X11_toldOf : vOk 11 mX11_toldOf := ⟨gt_5 202 rfl rfl, gt_sel (q := (yX11_toldOf, 42)) (by decide +kernel), _, rfl, rfl⟩
set_option maxRecDepth 100000 in
theorem ko_X11_toldOrNot : kOk 2 mX11_toldOrNot := ⟨gt_1 13 rfl rfl, gt_5 195 rfl rfl, ⟨by decide +kernel, by decide +kernel, by decide +kernel⟩, Nat.le_of_ble_eq_true rfl, by decide +kernel⟩
set_option maxRecDepth 100000 in
theorem kv_X11_toldOrNot : vOk 11 mX11_toldOrNot := ⟨gt_5 194 rfl rfl, gt_sel (q := (yX11_toldOrNot, 42)) (by decide +kernel), _, rfl, rfl⟩
set_option maxRecDepth 100000 in
theorem ko_X11_told : kOk 2 mX11_told := ⟨gt_1 13 rfl rfl, gt_5 191 rfl rfl, ⟨by decide +kernel, by decide +kernel, by decide +kernel⟩, Nat.le_of_ble_eq_true rfl, by decide +kernel⟩
set_option maxRecDepth 100000 in
theorem kv_X11_told : vOk 11 mX11_told := ⟨gt_5 189 rfl rfl, gt_5 190 rfl rfl, _, rfl, rfl⟩
set_option maxRecDepth 100000 in
theorem ko_X11_square : kOk 1 mX11_square := ⟨gt_1 13 rfl rfl, gt_5 215 rfl rfl, ⟨by decide +kernel, by decide +kernel, by decide +kernel⟩, Nat.le_of_ble_eq_true rfl, by decide +kernel⟩
set_option maxRecDepth 100000 in
theorem ks_X11_square : Cond.static yX11_square ∈ gt := gt_5 214 rfl rfl
set_option maxRecDepth 100000 in
theorem ko_X11_doAgree : kOk 3 mX11_doAgree := ⟨gt_1 13 rfl rfl, gt_5 212 rfl rfl, ⟨by decide +kernel, by decide +kernel, by decide +kernel⟩, Nat.le_of_ble_eq_true rfl, by decide +kernel⟩
set_option maxRecDepth 100000 in
theorem kv_X11_doAgree : vOk 11 mX11_doAgree := ⟨gt_5 211 rfl rfl, gt_sel (q := (yX11_doAgree, 42)) (by decide +kernel), _, rfl, rfl⟩
set_option maxRecDepth 100000 in
theorem ko_X11_agree : kOk 3 mX11_agree := ⟨gt_1 13 rfl rfl, gt_5 208 rfl rfl, ⟨by decide +kernel, by decide +kernel, by decide +kernel⟩, Nat.le_of_ble_eq_true rfl, by decide +kernel⟩
set_option maxRecDepth 100000 in
theorem kv_X11_agree : vOk 11 mX11_agree := ⟨gt_5 206 rfl rfl, gt_5 207 rfl rfl, _, rfl, rfl⟩
set_option maxRecDepth 100000 in
theorem ko_X11_ones : kOk 1 mX11_ones := ⟨gt_1 13 rfl rfl, gt_5 227 rfl rfl, ⟨by decide +kernel, by decide +kernel, by decide +kernel⟩, Nat.le_of_ble_eq_true rfl, by decide +kernel⟩
set_option maxRecDepth 100000 in
theorem ks_X11_ones : Cond.static yX11_ones ∈ gt := gt_5 226 rfl rfl
set_option maxRecDepth 100000 in
theorem ko_X11_agreeingOf : kOk 1 mX11_agreeingOf := ⟨gt_1 13 rfl rfl, gt_5 224 rfl rfl, ⟨by decide +kernel, by decide +kernel, by decide +kernel⟩, Nat.le_of_ble_eq_true rfl, by decide +kernel⟩
set_option maxRecDepth 100000 in
theorem kv_X11_agreeingOf : vOk 11 mX11_agreeingOf := ⟨gt_5 223 rfl rfl, gt_sel (q := (yX11_agreeingOf, 42)) (by decide +kernel), _, rfl, rfl⟩
set_option maxRecDepth 100000 in
theorem ko_X11_agreeing : kOk 1 mX11_agreeing := ⟨gt_1 13 rfl rfl, gt_5 220 rfl rfl, ⟨by decide +kernel, by decide +kernel, by decide +kernel⟩, Nat.le_of_ble_eq_true rfl, by decide +kernel⟩
set_option maxRecDepth 100000 in
theorem kv_X11_agreeing : vOk 11 mX11_agreeing := ⟨gt_5 218 rfl rfl, gt_5 219 rfl rfl, _, rfl, rfl⟩
set_option maxRecDepth 100000 in
theorem ko_X11_commonOf : kOk 1 mX11_commonOf := ⟨gt_1 13 rfl rfl, gt_5 235 rfl rfl, ⟨by decide +kernel, by decide +kernel, by decide +kernel⟩, Nat.le_of_ble_eq_true rfl, by decide +kernel⟩
set_option maxRecDepth 100000 in
theorem kv_X11_commonOf : vOk 11 mX11_commonOf := ⟨gt_5 234 rfl rfl, gt_sel (q := (yX11_commonOf, 42)) (by decide +kernel), _, rfl, rfl⟩
set_option maxRecDepth 100000 in
theorem ko_X11_common : kOk 2 mX11_common := ⟨gt_1 13 rfl rfl, gt_5 231 rfl rfl, ⟨by decide +kernel, by decide +kernel, by decide +kernel⟩, Nat.le_of_ble_eq_true rfl, by decide +kernel⟩
set_option maxRecDepth 100000 in
theorem kv_X11_common : vOk 11 mX11_common := ⟨gt_5 229 rfl rfl, gt_5 230 rfl rfl, _, rfl, rfl⟩
set_option maxRecDepth 100000 in
theorem ko_X11_together : kOk 2 mX11_together := ⟨gt_1 13 rfl rfl, gt_6 15 rfl rfl, ⟨by decide +kernel, by decide +kernel, by decide +kernel⟩, Nat.le_of_ble_eq_true rfl, by decide +kernel⟩
set_option maxRecDepth 100000 in
theorem kv_X11_together : vOk 11 mX11_together := ⟨gt_6 14 rfl rfl, gt_sel (q := (yX11_together, 42)) (by decide +kernel), _, rfl, rfl⟩
set_option maxRecDepth 100000 in
theorem ko_X11_costs : kOk 1 mX11_costs := ⟨gt_1 13 rfl rfl, gt_6 10 rfl rfl, ⟨by decide +kernel, by decide +kernel, by decide +kernel⟩, Nat.le_of_ble_eq_true rfl, by decide +kernel⟩
set_option maxRecDepth 100000 in
theorem kv_X11_costs : vOk 11 mX11_costs := ⟨gt_6 9 rfl rfl, gt_sel (q := (yX11_costs, 42)) (by decide +kernel), _, rfl, rfl⟩
set_option maxRecDepth 100000 in
theorem ko_X11_areTwo : kOk 2 mX11_areTwo := ⟨gt_1 13 rfl rfl, gt_6 6 rfl rfl, ⟨by decide +kernel, by decide +kernel, by decide +kernel⟩, Nat.le_of_ble_eq_true rfl, by decide +kernel⟩
set_option maxRecDepth 100000 in
theorem kv_X11_areTwo : vOk 11 mX11_areTwo := ⟨gt_6 5 rfl rfl, gt_sel (q := (yX11_areTwo, 42)) (by decide +kernel), _, rfl, rfl⟩
set_option maxRecDepth 100000 in
theorem ko_X11_chain : kOk 2 mX11_chain := ⟨gt_1 13 rfl rfl, gt_6 2 rfl rfl, ⟨by decide +kernel, by decide +kernel, by decide +kernel⟩, Nat.le_of_ble_eq_true rfl, by decide +kernel⟩
set_option maxRecDepth 100000 in
theorem kv_X11_chain : vOk 11 mX11_chain := ⟨gt_6 0 rfl rfl, gt_6 1 rfl rfl, _, rfl, rfl⟩
set_option maxRecDepth 100000 in
theorem ko_X11_via : kOk 2 mX11_via := ⟨gt_1 13 rfl rfl, gt_6 19 rfl rfl, ⟨by decide +kernel, by decide +kernel, by decide +kernel⟩, Nat.le_of_ble_eq_true rfl, by decide +kernel⟩
set_option maxRecDepth 100000 in
theorem kv_X11_via : vOk 11 mX11_via := ⟨gt_6 17 rfl rfl, gt_6 18 rfl rfl, _, rfl, rfl⟩
set_option maxRecDepth 100000 in
theorem ko_X11_add : kOk 1 mX11_add := ⟨gt_1 13 rfl rfl, gt_6 36 rfl rfl, ⟨by decide +kernel, by decide +kernel, by decide +kernel⟩, Nat.le_of_ble_eq_true rfl, by decide +kernel⟩
set_option maxRecDepth 100000 in
theorem kv_X11_add : vOk 11 mX11_add := ⟨gt_6 35 rfl rfl, gt_sel (q := (yX11_add, 42)) (by decide +kernel), _, rfl, rfl⟩
set_option maxRecDepth 100000 in
theorem ko_X11_middle : kOk 0 mX11_middle := ⟨gt_1 13 rfl rfl, gt_6 40 rfl rfl, ⟨by decide +kernel, by decide +kernel, by decide +kernel⟩, Nat.le_of_ble_eq_true rfl, by decide +kernel⟩
set_option maxRecDepth 100000 in
theorem kv_X11_middle : vOk 11 mX11_middle := ⟨gt_6 39 rfl rfl, gt_sel (q := (yX11_middle, 42)) (by decide +kernel), _, rfl, rfl⟩
set_option maxRecDepth 100000 in
theorem ko_X11_rowOf : kOk 1 mX11_rowOf := ⟨gt_1 13 rfl rfl, gt_6 32 rfl rfl, ⟨by decide +kernel, by decide +kernel, by decide +kernel⟩, Nat.le_of_ble_eq_true rfl, by decide +kernel⟩
set_option maxRecDepth 100000 in
theorem kv_X11_rowOf : vOk 11 mX11_rowOf := ⟨gt_6 31 rfl rfl, gt_sel (q := (yX11_rowOf, 42)) (by decide +kernel), _, rfl, rfl⟩
set_option maxRecDepth 100000 in
theorem ko_X11_pairsOf : kOk 1 mX11_pairsOf := ⟨gt_1 13 rfl rfl, gt_6 44 rfl rfl, ⟨by decide +kernel, by decide +kernel, by decide +kernel⟩, Nat.le_of_ble_eq_true rfl, by decide +kernel⟩
set_option maxRecDepth 100000 in
theorem kv_X11_pairsOf : vOk 11 mX11_pairsOf := ⟨gt_6 43 rfl rfl, gt_sel (q := (yX11_pairsOf, 42)) (by decide +kernel), _, rfl, rfl⟩
set_option maxRecDepth 100000 in
theorem ko_X11_weighted : kOk 1 mX11_weighted := ⟨gt_1 13 rfl rfl, gt_6 48 rfl rfl, ⟨by decide +kernel, by decide +kernel, by decide +kernel⟩, Nat.le_of_ble_eq_true rfl, by decide +kernel⟩
set_option maxRecDepth 100000 in
theorem kv_X11_weighted : vOk 11 mX11_weighted := ⟨gt_6 47 rfl rfl, gt_sel (q := (yX11_weighted, 42)) (by decide +kernel), _, rfl, rfl⟩
set_option maxRecDepth 100000 in
theorem ko_X11_root : kOk 1 mX11_root := ⟨gt_1 13 rfl rfl, gt_6 62 rfl rfl, ⟨by decide +kernel, by decide +kernel, by decide +kernel⟩, Nat.le_of_ble_eq_true rfl, by decide +kernel⟩
set_option maxRecDepth 100000 in
theorem ks_X11_root : Cond.static yX11_root ∈ gt := gt_6 61 rfl rfl
set_option maxRecDepth 100000 in
theorem ko_X11_steps : kOk 1 mX11_steps := ⟨gt_1 13 rfl rfl, gt_6 53 rfl rfl, ⟨by decide +kernel, by decide +kernel, by decide +kernel⟩, Nat.le_of_ble_eq_true rfl, by decide +kernel⟩
set_option maxRecDepth 100000 in
theorem kv_X11_steps : vOk 11 mX11_steps := ⟨gt_6 52 rfl rfl, gt_sel (q := (yX11_steps, 42)) (by decide +kernel), _, rfl, rfl⟩
set_option maxRecDepth 100000 in
theorem ko_X11_clipped : kOk 3 mX11_clipped := ⟨gt_1 13 rfl rfl, gt_6 58 rfl rfl, ⟨by decide +kernel, by decide +kernel, by decide +kernel⟩, Nat.le_of_ble_eq_true rfl, by decide +kernel⟩
set_option maxRecDepth 100000 in
theorem ks_X11_clipped : Cond.static yX11_clipped ∈ gt := gt_6 57 rfl rfl
set_option maxRecDepth 100000 in
theorem ko_X11_finds : kOk 2 mX11_finds := ⟨gt_1 13 rfl rfl, gt_6 28 rfl rfl, ⟨by decide +kernel, by decide +kernel, by decide +kernel⟩, Nat.le_of_ble_eq_true rfl, by decide +kernel⟩
set_option maxRecDepth 100000 in
theorem kv_X11_finds : vOk 11 mX11_finds := ⟨gt_6 27 rfl rfl, gt_sel (q := (yX11_finds, 42)) (by decide +kernel), _, rfl, rfl⟩
set_option maxRecDepth 100000 in
theorem ko_X11_number : kOk 3 mX11_number := ⟨gt_1 13 rfl rfl, gt_6 23 rfl rfl, ⟨by decide +kernel, by decide +kernel, by decide +kernel⟩, Nat.le_of_ble_eq_true rfl, by decide +kernel⟩
set_option maxRecDepth 100000 in
theorem kv_X11_number : vOk 11 mX11_number := ⟨gt_6 21 rfl rfl, gt_6 22 rfl rfl, _, rfl, rfl⟩
set_option maxRecDepth 100000 in
theorem ko_X11_markOf : kOk 2 mX11_markOf := ⟨gt_1 13 rfl rfl, gt_6 78 rfl rfl, ⟨by decide +kernel, by decide +kernel, by decide +kernel⟩, Nat.le_of_ble_eq_true rfl, by decide +kernel⟩
set_option maxRecDepth 100000 in
theorem kv_X11_markOf : vOk 11 mX11_markOf := ⟨gt_6 77 rfl rfl, gt_sel (q := (yX11_markOf, 42)) (by decide +kernel), _, rfl, rfl⟩
set_option maxRecDepth 100000 in
theorem ko_X11_mark : kOk 2 mX11_mark := ⟨gt_1 13 rfl rfl, gt_6 74 rfl rfl, ⟨by decide +kernel, by decide +kernel, by decide +kernel⟩, Nat.le_of_ble_eq_true rfl, by decide +kernel⟩
set_option maxRecDepth 100000 in
theorem kv_X11_mark : vOk 11 mX11_mark := ⟨gt_6 72 rfl rfl, gt_6 73 rfl rfl, _, rfl, rfl⟩
set_option maxRecDepth 100000 in
theorem ko_X11_judged : kOk 2 mX11_judged := ⟨gt_1 13 rfl rfl, gt_6 83 rfl rfl, ⟨by decide +kernel, by decide +kernel, by decide +kernel⟩, Nat.le_of_ble_eq_true rfl, by decide +kernel⟩
set_option maxRecDepth 100000 in
theorem kv_X11_judged : vOk 11 mX11_judged := ⟨gt_6 81 rfl rfl, gt_6 82 rfl rfl, _, rfl, rfl⟩
set_option maxRecDepth 100000 in
theorem ko_X11_run : kOk 1 mX11_run := ⟨gt_1 13 rfl rfl, gt_6 89 rfl rfl, ⟨by decide +kernel, by decide +kernel, by decide +kernel⟩, Nat.le_of_ble_eq_true rfl, by decide +kernel⟩
set_option maxRecDepth 100000 in
theorem kv_X11_run : vOk 11 mX11_run := ⟨gt_6 87 rfl rfl, gt_6 88 rfl rfl, _, rfl, rfl⟩
set_option maxRecDepth 100000 in
theorem ko_X11_repeats : kOk 2 mX11_repeats := ⟨gt_1 13 rfl rfl, gt_6 105 rfl rfl, ⟨by decide +kernel, by decide +kernel, by decide +kernel⟩, Nat.le_of_ble_eq_true rfl, by decide +kernel⟩
set_option maxRecDepth 100000 in
theorem kv_X11_repeats : vOk 11 mX11_repeats := ⟨gt_6 104 rfl rfl, gt_sel (q := (yX11_repeats, 42)) (by decide +kernel), _, rfl, rfl⟩
set_option maxRecDepth 100000 in
theorem ko_X11_withinTop : kOk 2 mX11_withinTop := ⟨gt_1 13 rfl rfl, gt_6 101 rfl rfl, ⟨by decide +kernel, by decide +kernel, by decide +kernel⟩, Nat.le_of_ble_eq_true rfl, by decide +kernel⟩
set_option maxRecDepth 100000 in
theorem kv_X11_withinTop : vOk 11 mX11_withinTop := ⟨gt_6 100 rfl rfl, gt_sel (q := (yX11_withinTop, 42)) (by decide +kernel), _, rfl, rfl⟩
set_option maxRecDepth 100000 in
theorem ko_X11_withinBottom : kOk 2 mX11_withinBottom := ⟨gt_1 13 rfl rfl, gt_6 109 rfl rfl, ⟨by decide +kernel, by decide +kernel, by decide +kernel⟩, Nat.le_of_ble_eq_true rfl, by decide +kernel⟩
set_option maxRecDepth 100000 in
theorem kv_X11_withinBottom : vOk 11 mX11_withinBottom := ⟨gt_6 108 rfl rfl, gt_sel (q := (yX11_withinBottom, 42)) (by decide +kernel), _, rfl, rfl⟩
set_option maxRecDepth 100000 in
theorem ko_X11_isRepeat : kOk 2 mX11_isRepeat := ⟨gt_1 13 rfl rfl, gt_6 97 rfl rfl, ⟨by decide +kernel, by decide +kernel, by decide +kernel⟩, Nat.le_of_ble_eq_true rfl, by decide +kernel⟩
set_option maxRecDepth 100000 in
theorem kv_X11_isRepeat : vOk 11 mX11_isRepeat := ⟨gt_6 96 rfl rfl, gt_sel (q := (yX11_isRepeat, 42)) (by decide +kernel), _, rfl, rfl⟩
set_option maxRecDepth 100000 in
theorem ko_X11_within : kOk 3 mX11_within := ⟨gt_1 13 rfl rfl, gt_6 93 rfl rfl, ⟨by decide +kernel, by decide +kernel, by decide +kernel⟩, Nat.le_of_ble_eq_true rfl, by decide +kernel⟩
set_option maxRecDepth 100000 in
theorem kv_X11_within : vOk 11 mX11_within := ⟨gt_6 91 rfl rfl, gt_6 92 rfl rfl, _, rfl, rfl⟩
set_option maxRecDepth 100000 in
theorem ko_X11_widestOf : kOk 1 mX11_widestOf := ⟨gt_1 13 rfl rfl, gt_6 117 rfl rfl, ⟨by decide +kernel, by decide +kernel, by decide +kernel⟩, Nat.le_of_ble_eq_true rfl, by decide +kernel⟩
set_option maxRecDepth 100000 in
theorem kv_X11_widestOf : vOk 11 mX11_widestOf := ⟨gt_6 116 rfl rfl, gt_sel (q := (yX11_widestOf, 42)) (by decide +kernel), _, rfl, rfl⟩
set_option maxRecDepth 100000 in
theorem ko_X11_widest : kOk 1 mX11_widest := ⟨gt_1 13 rfl rfl, gt_6 113 rfl rfl, ⟨by decide +kernel, by decide +kernel, by decide +kernel⟩, Nat.le_of_ble_eq_true rfl, by decide +kernel⟩
set_option maxRecDepth 100000 in
theorem kv_X11_widest : vOk 11 mX11_widest := ⟨gt_6 111 rfl rfl, gt_6 112 rfl rfl, _, rfl, rfl⟩
set_option maxRecDepth 100000 in
theorem ko_X11_share : kOk 2 mX11_share := ⟨gt_1 13 rfl rfl, gt_6 121 rfl rfl, ⟨by decide +kernel, by decide +kernel, by decide +kernel⟩, Nat.le_of_ble_eq_true rfl, by decide +kernel⟩
set_option maxRecDepth 100000 in
theorem kv_X11_share : vOk 11 mX11_share := ⟨gt_6 119 rfl rfl, gt_6 120 rfl rfl, _, rfl, rfl⟩
set_option maxRecDepth 100000 in
theorem ko_X11_parts : kOk 3 mX11_parts := ⟨gt_1 13 rfl rfl, gt_6 126 rfl rfl, ⟨by decide +kernel, by decide +kernel, by decide +kernel⟩, Nat.le_of_ble_eq_true rfl, by decide +kernel⟩
set_option maxRecDepth 100000 in
theorem kv_X11_parts : vOk 11 mX11_parts := ⟨gt_6 124 rfl rfl, gt_6 125 rfl rfl, _, rfl, rfl⟩
set_option maxRecDepth 100000 in
theorem ko_X11_wayMany : kOk 2 mX11_wayMany := ⟨gt_1 13 rfl rfl, gt_6 143 rfl rfl, ⟨by decide +kernel, by decide +kernel, by decide +kernel⟩, Nat.le_of_ble_eq_true rfl, by decide +kernel⟩
set_option maxRecDepth 100000 in
theorem kv_X11_wayMany : vOk 11 mX11_wayMany := ⟨gt_6 142 rfl rfl, gt_sel (q := (yX11_wayMany, 42)) (by decide +kernel), _, rfl, rfl⟩
set_option maxRecDepth 100000 in
theorem ko_X11_scoreOf : kOk 1 mX11_scoreOf := ⟨gt_1 13 rfl rfl, gt_6 134 rfl rfl, ⟨by decide +kernel, by decide +kernel, by decide +kernel⟩, Nat.le_of_ble_eq_true rfl, by decide +kernel⟩
set_option maxRecDepth 100000 in
theorem kv_X11_scoreOf : vOk 11 mX11_scoreOf := ⟨gt_6 133 rfl rfl, gt_sel (q := (yX11_scoreOf, 42)) (by decide +kernel), _, rfl, rfl⟩
set_option maxRecDepth 100000 in
theorem ko_X11_score : kOk 1 mX11_score := ⟨gt_1 13 rfl rfl, gt_6 130 rfl rfl, ⟨by decide +kernel, by decide +kernel, by decide +kernel⟩, Nat.le_of_ble_eq_true rfl, by decide +kernel⟩
set_option maxRecDepth 100000 in
theorem kv_X11_score : vOk 11 mX11_score := ⟨gt_6 128 rfl rfl, gt_6 129 rfl rfl, _, rfl, rfl⟩
set_option maxRecDepth 100000 in
theorem ko_X11_chanceOf : kOk 2 mX11_chanceOf := ⟨gt_1 13 rfl rfl, gt_6 147 rfl rfl, ⟨by decide +kernel, by decide +kernel, by decide +kernel⟩, Nat.le_of_ble_eq_true rfl, by decide +kernel⟩
set_option maxRecDepth 100000 in
theorem kv_X11_chanceOf : vOk 11 mX11_chanceOf := ⟨gt_6 146 rfl rfl, gt_sel (q := (yX11_chanceOf, 42)) (by decide +kernel), _, rfl, rfl⟩
set_option maxRecDepth 100000 in
theorem ko_X11_ways : kOk 2 mX11_ways := ⟨gt_1 13 rfl rfl, gt_6 139 rfl rfl, ⟨by decide +kernel, by decide +kernel, by decide +kernel⟩, Nat.le_of_ble_eq_true rfl, by decide +kernel⟩
set_option maxRecDepth 100000 in
theorem kv_X11_ways : vOk 11 mX11_ways := ⟨gt_6 137 rfl rfl, gt_6 138 rfl rfl, _, rfl, rfl⟩
set_option maxRecDepth 100000 in
theorem ko_X11_type : kOk 1 mX11_type := ⟨gt_1 13 rfl rfl, gt_6 151 rfl rfl, ⟨by decide +kernel, by decide +kernel, by decide +kernel⟩, Nat.le_of_ble_eq_true rfl, by decide +kernel⟩
set_option maxRecDepth 100000 in
theorem kv_X11_type : vOk 11 mX11_type := ⟨gt_6 149 rfl rfl, gt_6 150 rfl rfl, _, rfl, rfl⟩
set_option maxRecDepth 100000 in
theorem ko_X11_wipe : kOk 0 mX11_wipe := ⟨gt_1 13 rfl rfl, gt_6 155 rfl rfl, ⟨by decide +kernel, by decide +kernel, by decide +kernel⟩, Nat.le_of_ble_eq_true rfl, by decide +kernel⟩
set_option maxRecDepth 100000 in
theorem kv_X11_wipe : vOk 11 mX11_wipe := ⟨gt_6 153 rfl rfl, gt_6 154 rfl rfl, _, rfl, rfl⟩
set_option maxRecDepth 100000 in
theorem ko_X11_byteAt : kOk 1 mX11_byteAt := ⟨gt_1 13 rfl rfl, gt_6 175 rfl rfl, ⟨by decide +kernel, by decide +kernel, by decide +kernel⟩, Nat.le_of_ble_eq_true rfl, by decide +kernel⟩
set_option maxRecDepth 100000 in
theorem kv_X11_byteAt : vOk 11 mX11_byteAt := ⟨gt_6 174 rfl rfl, gt_sel (q := (yX11_byteAt, 42)) (by decide +kernel), _, rfl, rfl⟩
set_option maxRecDepth 100000 in
theorem ko_X11_figures : kOk 0 mX11_figures := ⟨gt_1 13 rfl rfl, gt_6 171 rfl rfl, ⟨by decide +kernel, by decide +kernel, by decide +kernel⟩, Nat.le_of_ble_eq_true rfl, by decide +kernel⟩
set_option maxRecDepth 100000 in
theorem kv_X11_figures : vOk 11 mX11_figures := ⟨gt_6 170 rfl rfl, gt_sel (q := (yX11_figures, 42)) (by decide +kernel), _, rfl, rfl⟩
set_option maxRecDepth 100000 in
theorem ko_X11_part : kOk 0 mX11_part := ⟨gt_1 13 rfl rfl, gt_6 167 rfl rfl, ⟨by decide +kernel, by decide +kernel, by decide +kernel⟩, Nat.le_of_ble_eq_true rfl, by decide +kernel⟩
set_option maxRecDepth 100000 in
theorem kv_X11_part : vOk 11 mX11_part := ⟨gt_6 166 rfl rfl, gt_sel (q := (yX11_part, 42)) (by decide +kernel), _, rfl, rfl⟩
set_option maxRecDepth 100000 in
theorem ko_X11_faultNow : kOk 0 mX11_faultNow := ⟨gt_1 13 rfl rfl, gt_6 163 rfl rfl, ⟨by decide +kernel, by decide +kernel, by decide +kernel⟩, Nat.le_of_ble_eq_true rfl, by decide +kernel⟩
set_option maxRecDepth 100000 in
theorem kv_X11_faultNow : vOk 11 mX11_faultNow := ⟨gt_6 162 rfl rfl, gt_sel (q := (yX11_faultNow, 42)) (by decide +kernel), _, rfl, rfl⟩
set_option maxRecDepth 100000 in
theorem ko_X11_fault : kOk 0 mX11_fault := ⟨gt_1 13 rfl rfl, gt_6 159 rfl rfl, ⟨by decide +kernel, by decide +kernel, by decide +kernel⟩, Nat.le_of_ble_eq_true rfl, by decide +kernel⟩
set_option maxRecDepth 100000 in
theorem kv_X11_fault : vOk 11 mX11_fault := ⟨gt_6 157 rfl rfl, gt_6 158 rfl rfl, _, rfl, rfl⟩
set_option maxRecDepth 100000 in
theorem ko_X11_reckons : kOk 0 mX11_reckons := ⟨gt_1 13 rfl rfl, gt_6 185 rfl rfl, ⟨by decide +kernel, by decide +kernel, by decide +kernel⟩, Nat.le_of_ble_eq_true rfl, by decide +kernel⟩
set_option maxRecDepth 100000 in
theorem kv_X11_reckons : vOk 11 mX11_reckons := ⟨gt_6 184 rfl rfl, gt_sel (q := (yX11_reckons, 42)) (by decide +kernel), _, rfl, rfl⟩
set_option maxRecDepth 100000 in
theorem ko_X11_reckon : kOk 0 mX11_reckon := ⟨gt_1 13 rfl rfl, gt_6 181 rfl rfl, ⟨by decide +kernel, by decide +kernel, by decide +kernel⟩, Nat.le_of_ble_eq_true rfl, by decide +kernel⟩
set_option maxRecDepth 100000 in
theorem kv_X11_reckon : vOk 11 mX11_reckon := ⟨gt_6 179 rfl rfl, gt_6 180 rfl rfl, _, rfl, rfl⟩
set_option maxRecDepth 100000 in
theorem ko_X11_claim : kOk 1 mX11_claim := ⟨gt_1 13 rfl rfl, gt_6 189 rfl rfl, ⟨by decide +kernel, by decide +kernel, by decide +kernel⟩, Nat.le_of_ble_eq_true rfl, by decide +kernel⟩
set_option maxRecDepth 100000 in
theorem kv_X11_claim : vOk 11 mX11_claim := ⟨gt_6 187 rfl rfl, gt_6 188 rfl rfl, _, rfl, rfl⟩
set_option maxRecDepth 100000 in
theorem ko_X11_meets : kOk 1 mX11_meets := ⟨gt_1 13 rfl rfl, gt_5 134 rfl rfl, ⟨by decide +kernel, by decide +kernel, by decide +kernel⟩, Nat.le_of_ble_eq_true rfl, by decide +kernel⟩
set_option maxRecDepth 100000 in
theorem kv_X11_meets : vOk 11 mX11_meets := ⟨gt_5 133 rfl rfl, gt_sel (q := (yX11_meets, 42)) (by decide +kernel), _, rfl, rfl⟩
set_option maxRecDepth 100000 in
theorem ko_X11_isSheet : kOk 1 mX11_isSheet := ⟨gt_1 13 rfl rfl, gt_5 130 rfl rfl, ⟨by decide +kernel, by decide +kernel, by decide +kernel⟩, Nat.le_of_ble_eq_true rfl, by decide +kernel⟩
set_option maxRecDepth 100000 in
theorem ks_X11_isSheet : Cond.static yX11_isSheet ∈ gt := gt_5 129 rfl rfl
set_option maxRecDepth 100000 in
theorem ko_X11_sheet : kOk 3 mX11_sheet := ⟨gt_1 13 rfl rfl, gt_6 193 rfl rfl, ⟨by decide +kernel, by decide +kernel, by decide +kernel⟩, Nat.le_of_ble_eq_true rfl, by decide +kernel⟩
set_option maxRecDepth 100000 in
theorem kv_X11_sheet : vOk 11 mX11_sheet := ⟨gt_6 191 rfl rfl, gt_6 192 rfl rfl, _, rfl, rfl⟩
set_option maxRecDepth 100000 in
theorem ko_X11_lose : kOk 1 mX11_lose := ⟨gt_1 13 rfl rfl, gt_6 197 rfl rfl, ⟨by decide +kernel, by decide +kernel, by decide +kernel⟩, Nat.le_of_ble_eq_true rfl, by decide +kernel⟩
set_option maxRecDepth 100000 in
theorem kv_X11_lose : vOk 11 mX11_lose := ⟨gt_6 195 rfl rfl, gt_6 196 rfl rfl, _, rfl, rfl⟩
set_option maxRecDepth 100000 in
theorem ko_X11_lacks : kOk 3 mX11_lacks := ⟨gt_1 13 rfl rfl, gt_6 205 rfl rfl, ⟨by decide +kernel, by decide +kernel, by decide +kernel⟩, Nat.le_of_ble_eq_true rfl, by decide +kernel⟩
set_option maxRecDepth 100000 in
theorem kv_X11_lacks : vOk 11 mX11_lacks := ⟨gt_6 204 rfl rfl, gt_sel (q := (yX11_lacks, 42)) (by decide +kernel), _, rfl, rfl⟩
set_option maxRecDepth 100000 in
theorem ko_X11_lay : kOk 3 mX11_lay := ⟨gt_1 13 rfl rfl, gt_6 209 rfl rfl, ⟨by decide +kernel, by decide +kernel, by decide +kernel⟩, Nat.le_of_ble_eq_true rfl, by decide +kernel⟩
set_option maxRecDepth 100000 in
theorem kv_X11_lay : vOk 11 mX11_lay := ⟨gt_6 208 rfl rfl, gt_sel (q := (yX11_lay, 42)) (by decide +kernel), _, rfl, rfl⟩
set_option maxRecDepth 100000 in
theorem ko_X11_put : kOk 4 mX11_put := ⟨gt_1 13 rfl rfl, gt_6 201 rfl rfl, ⟨by decide +kernel, by decide +kernel, by decide +kernel⟩, Nat.le_of_ble_eq_true rfl, by decide +kernel⟩
set_option maxRecDepth 100000 in
theorem kv_X11_put : vOk 11 mX11_put := ⟨gt_6 199 rfl rfl, gt_6 200 rfl rfl, _, rfl, rfl⟩
set_option maxRecDepth 100000 in
theorem ko_X11_get : kOk 3 mX11_get := ⟨gt_1 13 rfl rfl, gt_6 213 rfl rfl, ⟨by decide +kernel, by decide +kernel, by decide +kernel⟩, Nat.le_of_ble_eq_true rfl, by decide +kernel⟩
set_option maxRecDepth 100000 in
theorem kv_X11_get : vOk 11 mX11_get := ⟨gt_6 211 rfl rfl, gt_6 212 rfl rfl, _, rfl, rfl⟩
set_option maxRecDepth 100000 in
theorem ko_X11_copy : kOk 5 mX11_copy := ⟨gt_1 13 rfl rfl, gt_6 217 rfl rfl, ⟨by decide +kernel, by decide +kernel, by decide +kernel⟩, Nat.le_of_ble_eq_true rfl, by decide +kernel⟩
set_option maxRecDepth 100000 in
theorem kv_X11_copy : vOk 11 mX11_copy := ⟨gt_6 215 rfl rfl, gt_6 216 rfl rfl, _, rfl, rfl⟩
set_option maxRecDepth 100000 in
theorem ko_X11_write : kOk 2 mX11_write := ⟨gt_1 13 rfl rfl, gt_6 221 rfl rfl, ⟨by decide +kernel, by decide +kernel, by decide +kernel⟩, Nat.le_of_ble_eq_true rfl, by decide +kernel⟩
set_option maxRecDepth 100000 in
theorem kv_X11_write : vOk 11 mX11_write := ⟨gt_6 219 rfl rfl, gt_6 220 rfl rfl, _, rfl, rfl⟩
set_option maxRecDepth 100000 in
theorem ko_X11_knownMany : kOk 0 mX11_knownMany := ⟨gt_1 13 rfl rfl, gt_6 229 rfl rfl, ⟨by decide +kernel, by decide +kernel, by decide +kernel⟩, Nat.le_of_ble_eq_true rfl, by decide +kernel⟩
set_option maxRecDepth 100000 in
theorem kv_X11_knownMany : vOk 11 mX11_knownMany := ⟨gt_6 228 rfl rfl, gt_sel (q := (yX11_knownMany, 42)) (by decide +kernel), _, rfl, rfl⟩
set_option maxRecDepth 100000 in
theorem ko_X11_count : kOk 1 mX11_count := ⟨gt_1 13 rfl rfl, gt_6 225 rfl rfl, ⟨by decide +kernel, by decide +kernel, by decide +kernel⟩, Nat.le_of_ble_eq_true rfl, by decide +kernel⟩
set_option maxRecDepth 100000 in
theorem kv_X11_count : vOk 11 mX11_count := ⟨gt_6 223 rfl rfl, gt_6 224 rfl rfl, _, rfl, rfl⟩
set_option maxRecDepth 100000 in
theorem ko_X11_digest : kOk 0 mX11_digest := ⟨gt_1 13 rfl rfl, gt_6 233 rfl rfl, ⟨by decide +kernel, by decide +kernel, by decide +kernel⟩, Nat.le_of_ble_eq_true rfl, by decide +kernel⟩
set_option maxRecDepth 100000 in
theorem kv_X11_digest : vOk 11 mX11_digest := ⟨gt_6 231 rfl rfl, gt_6 232 rfl rfl, _, rfl, rfl⟩
set_option maxRecDepth 100000 in
theorem ko_J6_bitCount_0f7a4 : kOk 1 mJ6_bitCount_0f7a4 := ⟨gt_1 15 rfl rfl, gt_3 68 rfl rfl, ⟨by decide +kernel, by decide +kernel, by decide +kernel⟩, Nat.le_of_ble_eq_true rfl, by decide +kernel⟩
set_option maxRecDepth 100000 in
theorem ks_J6_bitCount_0f7a4 : Cond.static yJ6_bitCount_0f7a4 ∈ gt := gt_3 67 rfl rfl
set_option maxRecDepth 100000 in
theorem ko_J6_signum_0f7a4 : kOk 1 mJ6_signum_0f7a4 := ⟨gt_1 15 rfl rfl, gt_3 225 rfl rfl, ⟨by decide +kernel, by decide +kernel, by decide +kernel⟩, Nat.le_of_ble_eq_true rfl, by decide +kernel⟩
set_option maxRecDepth 100000 in
theorem ks_J6_signum_0f7a4 : Cond.static yJ6_signum_0f7a4 ∈ gt := gt_3 224 rfl rfl
set_option maxRecDepth 100000 in
theorem ko_J9_floorDiv_f86c9 : kOk 2 mJ9_floorDiv_f86c9 := ⟨gt_1 14 rfl rfl, gt_2 212 rfl rfl, ⟨by decide +kernel, by decide +kernel, by decide +kernel⟩, Nat.le_of_ble_eq_true rfl, by decide +kernel⟩
set_option maxRecDepth 100000 in
theorem ks_J9_floorDiv_f86c9 : Cond.static yJ9_floorDiv_f86c9 ∈ gt := gt_2 211 rfl rfl
set_option maxRecDepth 100000 in
theorem ko_J9_abs_0f7a4 : kOk 1 mJ9_abs_0f7a4 := ⟨gt_1 14 rfl rfl, gt_3 91 rfl rfl, ⟨by decide +kernel, by decide +kernel, by decide +kernel⟩, Nat.le_of_ble_eq_true rfl, by decide +kernel⟩
set_option maxRecDepth 100000 in
theorem ks_J9_abs_0f7a4 : Cond.static yJ9_abs_0f7a4 ∈ gt := gt_3 90 rfl rfl
set_option maxRecDepth 100000 in
theorem ko_J9_abs_067f4 : kOk 1 mJ9_abs_067f4 := ⟨gt_1 14 rfl rfl, gt_3 153 rfl rfl, ⟨by decide +kernel, by decide +kernel, by decide +kernel⟩, Nat.le_of_ble_eq_true rfl, by decide +kernel⟩
set_option maxRecDepth 100000 in
theorem ks_J9_abs_067f4 : Cond.static yJ9_abs_067f4 ∈ gt := gt_3 152 rfl rfl
set_option maxRecDepth 100000 in
theorem ko_J9_max_7cf53 : kOk 2 mJ9_max_7cf53 := ⟨gt_1 14 rfl rfl, gt_3 228 rfl rfl, ⟨by decide +kernel, by decide +kernel, by decide +kernel⟩, Nat.le_of_ble_eq_true rfl, by decide +kernel⟩
set_option maxRecDepth 100000 in
theorem ks_J9_max_7cf53 : Cond.static yJ9_max_7cf53 ∈ gt := gt_3 227 rfl rfl
set_option maxRecDepth 100000 in
theorem ko_J9_max_f86c9 : kOk 2 mJ9_max_f86c9 := ⟨gt_1 14 rfl rfl, gt_3 186 rfl rfl, ⟨by decide +kernel, by decide +kernel, by decide +kernel⟩, Nat.le_of_ble_eq_true rfl, by decide +kernel⟩
set_option maxRecDepth 100000 in
theorem ks_J9_max_f86c9 : Cond.static yJ9_max_f86c9 ∈ gt := gt_3 185 rfl rfl
set_option maxRecDepth 100000 in
theorem ko_J9_min_7cf53 : kOk 2 mJ9_min_7cf53 := ⟨gt_1 14 rfl rfl, gt_4 172 rfl rfl, ⟨by decide +kernel, by decide +kernel, by decide +kernel⟩, Nat.le_of_ble_eq_true rfl, by decide +kernel⟩
set_option maxRecDepth 100000 in
theorem ks_J9_min_7cf53 : Cond.static yJ9_min_7cf53 ∈ gt := gt_4 171 rfl rfl
set_option maxRecDepth 100000 in
theorem ko_J9_min_f86c9 : kOk 2 mJ9_min_f86c9 := ⟨gt_1 14 rfl rfl, gt_3 183 rfl rfl, ⟨by decide +kernel, by decide +kernel, by decide +kernel⟩, Nat.le_of_ble_eq_true rfl, by decide +kernel⟩
set_option maxRecDepth 100000 in
theorem ks_J9_min_f86c9 : Cond.static yJ9_min_f86c9 ∈ gt := gt_3 182 rfl rfl
set_option maxRecDepth 100000 in
theorem ko_J7_fill_d0a16 : kOk 2 mJ7_fill_d0a16 := ⟨gt_1 12 rfl rfl, gt_2 196 rfl rfl, ⟨by decide +kernel, by decide +kernel, by decide +kernel⟩, Nat.le_of_ble_eq_true rfl, by decide +kernel⟩
set_option maxRecDepth 100000 in
theorem ks_J7_fill_d0a16 : Cond.static yJ7_fill_d0a16 ∈ gt := gt_2 195 rfl rfl
set_option maxRecDepth 100000 in
theorem ko_J7_fill_53178 : kOk 2 mJ7_fill_53178 := ⟨gt_1 12 rfl rfl, gt_2 80 rfl rfl, ⟨by decide +kernel, by decide +kernel, by decide +kernel⟩, Nat.le_of_ble_eq_true rfl, by decide +kernel⟩
set_option maxRecDepth 100000 in
theorem ks_J7_fill_53178 : Cond.static yJ7_fill_53178 ∈ gt := gt_2 79 rfl rfl
set_option maxRecDepth 100000 in
theorem ml_X9_23 : Cond.methodLink RX9 23 yJ7_fill_53178 ∈ gt := gt_2 78 rfl rfl
set_option maxRecDepth 100000 in
theorem ml_X10_85 : Cond.methodLink RX10 85 yX1_addHouse ∈ gt := gt_2 134 rfl rfl
set_option maxRecDepth 100000 in
theorem ml_X10_89 : Cond.methodLink RX10 89 yX10_noHouse ∈ gt := gt_2 142 rfl rfl
set_option maxRecDepth 100000 in
theorem ml_X10_93 : Cond.methodLink RX10 93 yX1_changeDoubt ∈ gt := gt_2 146 rfl rfl
set_option maxRecDepth 100000 in
theorem ml_X10_97 : Cond.methodLink RX10 97 yX10_tell ∈ gt := gt_2 154 rfl rfl
set_option maxRecDepth 100000 in
theorem ml_X10_152 : Cond.methodLink RX10 152 yX10_noPiece ∈ gt := gt_2 158 rfl rfl
set_option maxRecDepth 100000 in
theorem ml_X10_349 : Cond.methodLink RX10 349 yX1_readingsOf ∈ gt := gt_2 161 rfl rfl
set_option maxRecDepth 100000 in
theorem ml_X10_352 : Cond.methodLink RX10 352 yX1_addReading ∈ gt := gt_2 165 rfl rfl
set_option maxRecDepth 100000 in
theorem ml_X10_127 : Cond.methodLink RX10 127 yX7_renew ∈ gt := gt_2 169 rfl rfl
set_option maxRecDepth 100000 in
theorem ml_X7_53 : Cond.methodLink RX7 53 yX7_findPoints ∈ gt := gt_2 173 rfl rfl
set_option maxRecDepth 100000 in
theorem ml_X7_69 : Cond.methodLink RX7 69 yX1_isKnownOf ∈ gt := gt_2 177 rfl rfl
set_option maxRecDepth 100000 in
theorem ml_X1_49 : Cond.methodLink RX1 49 yX1_isKnown ∈ gt := gt_2 181 rfl rfl
set_option maxRecDepth 100000 in
theorem ml_X7_89 : Cond.methodLink RX7 89 yX7_addToPoint ∈ gt := gt_2 185 rfl rfl
set_option maxRecDepth 100000 in
theorem ml_X7_93 : Cond.methodLink RX7 93 yX7_openPoint ∈ gt := gt_2 189 rfl rfl
set_option maxRecDepth 100000 in
theorem ml_X7_57 : Cond.methodLink RX7 57 yJ7_fill_53178 ∈ gt := gt_2 193 rfl rfl
set_option maxRecDepth 100000 in
theorem ml_X7_63 : Cond.methodLink RX7 63 yJ7_fill_d0a16 ∈ gt := gt_2 194 rfl rfl
set_option maxRecDepth 100000 in
theorem ml_X7_78 : Cond.methodLink RX7 78 yX7_driftOn ∈ gt := gt_2 197 rfl rfl
set_option maxRecDepth 100000 in
theorem ml_X7_96 : Cond.methodLink RX7 96 yX7_driftBetween ∈ gt := gt_2 201 rfl rfl
set_option maxRecDepth 100000 in
theorem ml_X10_357 : Cond.methodLink RX10 357 yJ9_floorDiv_f86c9 ∈ gt := gt_2 210 rfl rfl
set_option maxRecDepth 100000 in
theorem ml_X10_101 : Cond.methodLink RX10 101 yX10_noSheet ∈ gt := gt_2 217 rfl rfl
set_option maxRecDepth 100000 in
theorem ml_X10_104 : Cond.methodLink RX10 104 yX9_isLost ∈ gt := gt_2 220 rfl rfl
set_option maxRecDepth 100000 in
theorem ml_X10_107 : Cond.methodLink RX10 107 yX9_find ∈ gt := gt_2 224 rfl rfl
set_option maxRecDepth 100000 in
theorem ml_X10_118 : Cond.methodLink RX10 118 yX10_noReading ∈ gt := gt_2 232 rfl rfl
set_option maxRecDepth 100000 in
theorem ml_X10_143 : Cond.methodLink RX10 143 yX1_isKnown ∈ gt := gt_3 0 rfl rfl
set_option maxRecDepth 100000 in
theorem ml_X10_149 : Cond.methodLink RX10 149 yX0_changeFactor ∈ gt := gt_3 9 rfl rfl
set_option maxRecDepth 100000 in
theorem ml_X10_156 : Cond.methodLink RX10 156 yX7_driftOn ∈ gt := gt_3 18 rfl rfl
set_option maxRecDepth 100000 in
theorem ml_X10_162 : Cond.methodLink RX10 162 yX7_takesPart ∈ gt := gt_3 27 rfl rfl
set_option maxRecDepth 100000 in
theorem ml_X10_170 : Cond.methodLink RX10 170 yX0_holds ∈ gt := gt_3 36 rfl rfl
set_option maxRecDepth 100000 in
theorem ml_X0_33 : Cond.methodLink RX0 33 yX1_squaredDoubt ∈ gt := gt_3 40 rfl rfl
set_option maxRecDepth 100000 in
theorem ml_X10_174 : Cond.methodLink RX10 174 yX0_mostOf ∈ gt := gt_3 49 rfl rfl
set_option maxRecDepth 100000 in
theorem ml_X0_41 : Cond.methodLink RX0 41 yX7_takingPart ∈ gt := gt_3 53 rfl rfl
set_option maxRecDepth 100000 in
theorem ml_X7_49 : Cond.methodLink RX7 49 yX7_takesPart ∈ gt := gt_3 57 rfl rfl
set_option maxRecDepth 100000 in
theorem ml_X0_47 : Cond.methodLink RX0 47 yX0_agreeingWith ∈ gt := gt_3 58 rfl rfl
set_option maxRecDepth 100000 in
theorem ml_X0_55 : Cond.methodLink RX0 55 yX0_holds ∈ gt := gt_3 62 rfl rfl
set_option maxRecDepth 100000 in
theorem ml_X0_51 : Cond.methodLink RX0 51 yX0_widestCircle ∈ gt := gt_3 63 rfl rfl
set_option maxRecDepth 100000 in
theorem ml_X0_59 : Cond.methodLink RX0 59 yJ6_bitCount_0f7a4 ∈ gt := gt_3 66 rfl rfl
set_option maxRecDepth 100000 in
theorem ml_X10_177 : Cond.methodLink RX10 177 yX0_meet ∈ gt := gt_3 76 rfl rfl
set_option maxRecDepth 100000 in
theorem ml_X0_70 : Cond.methodLink RX0 70 yX7_takesPart ∈ gt := gt_3 80 rfl rfl
set_option maxRecDepth 100000 in
theorem ml_X0_74 : Cond.methodLink RX0 74 yX0_reachOf ∈ gt := gt_3 81 rfl rfl
set_option maxRecDepth 100000 in
theorem ml_X0_77 : Cond.methodLink RX0 77 yX0_spansAt ∈ gt := gt_3 85 rfl rfl
set_option maxRecDepth 100000 in
theorem ml_X0_81 : Cond.methodLink RX0 81 yJ9_abs_0f7a4 ∈ gt := gt_3 89 rfl rfl
set_option maxRecDepth 100000 in
theorem ml_X10_186 : Cond.methodLink RX10 186 yX2_reckonTo ∈ gt := gt_3 96 rfl rfl
set_option maxRecDepth 100000 in
theorem ml_X2_26 : Cond.methodLink RX2 26 yX2_findNeighbours ∈ gt := gt_3 100 rfl rfl
set_option maxRecDepth 100000 in
theorem ml_X2_29 : Cond.methodLink RX2 29 yJ7_fill_53178 ∈ gt := gt_3 104 rfl rfl
set_option maxRecDepth 100000 in
theorem ml_X2_52 : Cond.methodLink RX2 52 yX7_takingPart ∈ gt := gt_3 105 rfl rfl
set_option maxRecDepth 100000 in
theorem ml_X2_35 : Cond.methodLink RX2 35 yX1_squaredDoubt ∈ gt := gt_3 106 rfl rfl
set_option maxRecDepth 100000 in
theorem ml_X2_45 : Cond.methodLink RX2 45 yX2_cheapestBeside ∈ gt := gt_3 107 rfl rfl
set_option maxRecDepth 100000 in
theorem ml_X2_48 : Cond.methodLink RX2 48 yX2_costBy ∈ gt := gt_3 111 rfl rfl
set_option maxRecDepth 100000 in
theorem ml_X10_192 : Cond.methodLink RX10 192 yX2_nextFrom ∈ gt := gt_3 119 rfl rfl
set_option maxRecDepth 100000 in
theorem ml_X10_195 : Cond.methodLink RX10 195 yX10_refusal ∈ gt := gt_3 127 rfl rfl
set_option maxRecDepth 100000 in
theorem ml_X10_199 : Cond.methodLink RX10 199 yX6_reckonBy ∈ gt := gt_3 131 rfl rfl
set_option maxRecDepth 100000 in
theorem ml_X6_36 : Cond.methodLink RX6 36 yX6_gather ∈ gt := gt_3 135 rfl rfl
set_option maxRecDepth 100000 in
theorem ml_X6_69 : Cond.methodLink RX6 69 yX7_takesPart ∈ gt := gt_3 139 rfl rfl
set_option maxRecDepth 100000 in
theorem ml_X6_44 : Cond.methodLink RX6 44 yX6_twiceMiddle ∈ gt := gt_3 143 rfl rfl
set_option maxRecDepth 100000 in
theorem ml_X6_50 : Cond.methodLink RX6 50 yX5_become ∈ gt := gt_3 147 rfl rfl
set_option maxRecDepth 100000 in
theorem ml_X5_13 : Cond.methodLink RX5 13 yJ9_abs_067f4 ∈ gt := gt_3 151 rfl rfl
set_option maxRecDepth 100000 in
theorem ml_X5_19 : Cond.methodLink RX5 19 yX5_greatestShared ∈ gt := gt_3 154 rfl rfl
set_option maxRecDepth 100000 in
theorem ml_X6_54 : Cond.methodLink RX6 54 yX6_byPairs ∈ gt := gt_3 157 rfl rfl
set_option maxRecDepth 100000 in
theorem ml_X6_57 : Cond.methodLink RX6 57 yX6_byWeights ∈ gt := gt_3 162 rfl rfl
set_option maxRecDepth 100000 in
theorem ml_X6_85 : Cond.methodLink RX6 85 yX1_squaredDoubt ∈ gt := gt_3 166 rfl rfl
set_option maxRecDepth 100000 in
theorem ml_X6_60 : Cond.methodLink RX6 60 yX6_bySteps ∈ gt := gt_3 168 rfl rfl
set_option maxRecDepth 100000 in
theorem ml_X6_91 : Cond.methodLink RX6 91 yJ9_floorDiv_f86c9 ∈ gt := gt_3 172 rfl rfl
set_option maxRecDepth 100000 in
theorem ml_X6_97 : Cond.methodLink RX6 97 yJ9_abs_067f4 ∈ gt := gt_3 173 rfl rfl
set_option maxRecDepth 100000 in
theorem ml_X6_107 : Cond.methodLink RX6 107 yX6_clippedMean ∈ gt := gt_3 177 rfl rfl
set_option maxRecDepth 100000 in
theorem ml_X6_116 : Cond.methodLink RX6 116 yJ9_min_f86c9 ∈ gt := gt_3 181 rfl rfl
set_option maxRecDepth 100000 in
theorem ml_X6_119 : Cond.methodLink RX6 119 yJ9_max_f86c9 ∈ gt := gt_3 184 rfl rfl
set_option maxRecDepth 100000 in
theorem ml_X6_110 : Cond.methodLink RX6 110 yX6_clippedSpread ∈ gt := gt_3 187 rfl rfl
set_option maxRecDepth 100000 in
theorem ml_X6_113 : Cond.methodLink RX6 113 yX6_root ∈ gt := gt_3 193 rfl rfl
set_option maxRecDepth 100000 in
theorem ml_X10_206 : Cond.methodLink RX10 206 yX5_side ∈ gt := gt_3 196 rfl rfl
set_option maxRecDepth 100000 in
theorem ml_X10_211 : Cond.methodLink RX10 211 yX6_markOf ∈ gt := gt_3 204 rfl rfl
set_option maxRecDepth 100000 in
theorem ml_X10_214 : Cond.methodLink RX10 214 yJ9_abs_0f7a4 ∈ gt := gt_3 213 rfl rfl
set_option maxRecDepth 100000 in
theorem ml_X10_219 : Cond.methodLink RX10 219 yX6_longestRun ∈ gt := gt_3 218 rfl rfl
set_option maxRecDepth 100000 in
theorem ml_X6_132 : Cond.methodLink RX6 132 yX6_markOf ∈ gt := gt_3 222 rfl rfl
set_option maxRecDepth 100000 in
theorem ml_X6_136 : Cond.methodLink RX6 136 yJ6_signum_0f7a4 ∈ gt := gt_3 223 rfl rfl
set_option maxRecDepth 100000 in
theorem ml_X6_141 : Cond.methodLink RX6 141 yJ9_max_7cf53 ∈ gt := gt_3 226 rfl rfl
set_option maxRecDepth 100000 in
theorem ml_X10_222 : Cond.methodLink RX10 222 yX8_reckonWithin ∈ gt := gt_3 233 rfl rfl
set_option maxRecDepth 100000 in
theorem ml_X8_70 : Cond.methodLink RX8 70 yX8_gather ∈ gt := gt_3 238 rfl rfl
set_option maxRecDepth 100000 in
theorem ml_X8_33 : Cond.methodLink RX8 33 yJ7_fill_d0a16 ∈ gt := gt_4 2 rfl rfl
set_option maxRecDepth 100000 in
theorem ml_X8_45 : Cond.methodLink RX8 45 yX1_isKnownOf ∈ gt := gt_4 3 rfl rfl
set_option maxRecDepth 100000 in
theorem ml_X8_74 : Cond.methodLink RX8 74 yX8_spread ∈ gt := gt_4 6 rfl rfl
set_option maxRecDepth 100000 in
theorem ml_X8_78 : Cond.methodLink RX8 78 yX5_become ∈ gt := gt_4 10 rfl rfl
set_option maxRecDepth 100000 in
theorem ml_X10_226 : Cond.methodLink RX10 226 yX8_gather ∈ gt := gt_4 15 rfl rfl
set_option maxRecDepth 100000 in
theorem ml_X10_229 : Cond.methodLink RX10 229 yX8_widestOf ∈ gt := gt_4 16 rfl rfl
set_option maxRecDepth 100000 in
theorem ml_X8_87 : Cond.methodLink RX8 87 yX8_scaledWithin ∈ gt := gt_4 21 rfl rfl
set_option maxRecDepth 100000 in
theorem ml_X10_232 : Cond.methodLink RX10 232 yX8_reckonShare ∈ gt := gt_4 29 rfl rfl
set_option maxRecDepth 100000 in
theorem ml_X8_91 : Cond.methodLink RX8 91 yX8_widestOf ∈ gt := gt_4 33 rfl rfl
set_option maxRecDepth 100000 in
theorem ml_X8_95 : Cond.methodLink RX8 95 yJ9_max_f86c9 ∈ gt := gt_4 34 rfl rfl
set_option maxRecDepth 100000 in
theorem ml_X10_235 : Cond.methodLink RX10 235 yX8_reckonPart ∈ gt := gt_4 39 rfl rfl
set_option maxRecDepth 100000 in
theorem ml_X8_103 : Cond.methodLink RX8 103 yX8_likeMany ∈ gt := gt_4 43 rfl rfl
set_option maxRecDepth 100000 in
theorem ml_X8_100 : Cond.methodLink RX8 100 yJ9_max_7cf53 ∈ gt := gt_4 47 rfl rfl
set_option maxRecDepth 100000 in
theorem ml_X8_106 : Cond.methodLink RX8 106 yX7_takingPart ∈ gt := gt_4 48 rfl rfl
set_option maxRecDepth 100000 in
theorem ml_X8_109 : Cond.methodLink RX8 109 yJ6_bitCount_0f7a4 ∈ gt := gt_4 49 rfl rfl
set_option maxRecDepth 100000 in
theorem ml_X10_238 : Cond.methodLink RX10 238 yX3_gather ∈ gt := gt_4 54 rfl rfl
set_option maxRecDepth 100000 in
theorem ml_X3_26 : Cond.methodLink RX3 26 yJ7_fill_53178 ∈ gt := gt_4 58 rfl rfl
set_option maxRecDepth 100000 in
theorem ml_X3_43 : Cond.methodLink RX3 43 yX7_takesPart ∈ gt := gt_4 59 rfl rfl
set_option maxRecDepth 100000 in
theorem ml_X10_243 : Cond.methodLink RX10 243 yX3_chance ∈ gt := gt_4 60 rfl rfl
set_option maxRecDepth 100000 in
theorem ml_X3_56 : Cond.methodLink RX3 56 yX3_choices ∈ gt := gt_4 64 rfl rfl
set_option maxRecDepth 100000 in
theorem ml_X3_60 : Cond.methodLink RX3 60 yX3_dealt ∈ gt := gt_4 67 rfl rfl
set_option maxRecDepth 100000 in
theorem ml_X10_258 : Cond.methodLink RX10 258 yX4_append ∈ gt := gt_4 79 rfl rfl
set_option maxRecDepth 100000 in
theorem ml_X10_261 : Cond.methodLink RX10 261 yX4_firstFault ∈ gt := gt_4 91 rfl rfl
set_option maxRecDepth 100000 in
theorem ml_X4_33 : Cond.methodLink RX4 33 yX4_faultOfPart ∈ gt := gt_4 95 rfl rfl
set_option maxRecDepth 100000 in
theorem ml_X4_41 : Cond.methodLink RX4 41 yX5_become ∈ gt := gt_4 99 rfl rfl
set_option maxRecDepth 100000 in
theorem ml_X4_45 : Cond.methodLink RX4 45 yX4_nextNumber ∈ gt := gt_4 100 rfl rfl
set_option maxRecDepth 100000 in
theorem ml_X4_56 : Cond.methodLink RX4 56 yJ9_max_7cf53 ∈ gt := gt_4 104 rfl rfl
set_option maxRecDepth 100000 in
theorem ml_X4_37 : Cond.methodLink RX4 37 yX4_squareOfPart ∈ gt := gt_4 106 rfl rfl
set_option maxRecDepth 100000 in
theorem ml_X10_264 : Cond.methodLink RX10 264 yX4_doubtOfSquare ∈ gt := gt_4 115 rfl rfl
set_option maxRecDepth 100000 in
theorem ml_X10_267 : Cond.methodLink RX10 267 yX10_noType ∈ gt := gt_4 127 rfl rfl
set_option maxRecDepth 100000 in
theorem ml_X10_270 : Cond.methodLink RX10 270 yX9_make ∈ gt := gt_4 130 rfl rfl
set_option maxRecDepth 100000 in
theorem ml_X10_277 : Cond.methodLink RX10 277 yX9_against ∈ gt := gt_4 142 rfl rfl
set_option maxRecDepth 100000 in
theorem ml_X9_33 : Cond.methodLink RX9 33 yX9_isLost ∈ gt := gt_4 146 rfl rfl
set_option maxRecDepth 100000 in
theorem ml_X10_280 : Cond.methodLink RX10 280 yX9_store ∈ gt := gt_4 147 rfl rfl
set_option maxRecDepth 100000 in
theorem ml_X10_284 : Cond.methodLink RX10 284 yX9_holds ∈ gt := gt_4 159 rfl rfl
set_option maxRecDepth 100000 in
theorem ml_X10_291 : Cond.methodLink RX10 291 yJ9_min_7cf53 ∈ gt := gt_4 170 rfl rfl
set_option maxRecDepth 100000 in
theorem ml_X10_297 : Cond.methodLink RX10 297 yX1_knownReadings ∈ gt := gt_4 177 rfl rfl
set_option maxRecDepth 100000 in
theorem ml_X10_300 : Cond.methodLink RX10 300 yX7_takingPart ∈ gt := gt_4 181 rfl rfl
set_option maxRecDepth 100000 in
theorem ml_X10_303 : Cond.methodLink RX10 303 yJ6_bitCount_0f7a4 ∈ gt := gt_4 182 rfl rfl
set_option maxRecDepth 100000 in
theorem ml_X10_316 : Cond.methodLink RX10 316 yX10_count ∈ gt := gt_4 189 rfl rfl
set_option maxRecDepth 100000 in
theorem ml_X10_322 : Cond.methodLink RX10 322 yX10_told ∈ gt := gt_4 190 rfl rfl
set_option maxRecDepth 100000 in
theorem ml_X10_325 : Cond.methodLink RX10 325 yX10_digestPiece ∈ gt := gt_4 191 rfl rfl
set_option maxRecDepth 100000 in
theorem ml_X10_332 : Cond.methodLink RX10 332 yX10_agreeing ∈ gt := gt_4 195 rfl rfl
set_option maxRecDepth 100000 in
theorem ml_X10_335 : Cond.methodLink RX10 335 yX10_common ∈ gt := gt_4 196 rfl rfl
set_option maxRecDepth 100000 in
theorem ml_X10_346 : Cond.methodLink RX10 346 yX10_widest ∈ gt := gt_4 198 rfl rfl
set_option maxRecDepth 100000 in
theorem ml_X10_329 : Cond.methodLink RX10 329 yX10_fault ∈ gt := gt_4 199 rfl rfl
set_option maxRecDepth 100000 in
theorem ml_X11_104 : Cond.methodLink RX11 104 yX11_in ∈ gt := gt_5 98 rfl rfl
set_option maxRecDepth 100000 in
theorem ml_X11_115 : Cond.methodLink RX11 115 yX11_isHouse ∈ gt := gt_5 109 rfl rfl
set_option maxRecDepth 100000 in
theorem ml_X11_125 : Cond.methodLink RX11 125 yX11_readingMore ∈ gt := gt_5 117 rfl rfl
set_option maxRecDepth 100000 in
theorem ml_X11_119 : Cond.methodLink RX11 119 yX11_isPiece ∈ gt := gt_5 121 rfl rfl
set_option maxRecDepth 100000 in
theorem ml_X11_129 : Cond.methodLink RX11 129 yX11_isSheet ∈ gt := gt_5 128 rfl rfl
set_option maxRecDepth 100000 in
theorem ml_X11_132 : Cond.methodLink RX11 132 yX11_meets ∈ gt := gt_5 131 rfl rfl
set_option maxRecDepth 100000 in
theorem ml_X11_136 : Cond.methodLink RX11 136 yX11_isKnown ∈ gt := gt_5 143 rfl rfl
set_option maxRecDepth 100000 in
theorem ml_X11_157 : Cond.methodLink RX11 157 yX11_works ∈ gt := gt_5 160 rfl rfl
set_option maxRecDepth 100000 in
theorem ml_X11_144 : Cond.methodLink RX11 144 yX11_points ∈ gt := gt_5 164 rfl rfl
set_option maxRecDepth 100000 in
theorem ml_X11_148 : Cond.methodLink RX11 148 yX11_reducedOf ∈ gt := gt_5 168 rfl rfl
set_option maxRecDepth 100000 in
theorem ml_X11_152 : Cond.methodLink RX11 152 yX11_driftOf ∈ gt := gt_5 173 rfl rfl
set_option maxRecDepth 100000 in
theorem ml_X11_141 : Cond.methodLink RX11 141 yX11_near ∈ gt := gt_5 177 rfl rfl
set_option maxRecDepth 100000 in
theorem ml_X11_90 : Cond.methodLink RX11 90 yX11_down ∈ gt := gt_5 181 rfl rfl
set_option maxRecDepth 100000 in
theorem ml_X11_169 : Cond.methodLink RX11 169 yX11_toldOrNot ∈ gt := gt_5 192 rfl rfl
set_option maxRecDepth 100000 in
theorem ml_X11_160 : Cond.methodLink RX11 160 yX11_takes ∈ gt := gt_5 196 rfl rfl
set_option maxRecDepth 100000 in
theorem ml_X11_164 : Cond.methodLink RX11 164 yX11_toldOf ∈ gt := gt_5 200 rfl rfl
set_option maxRecDepth 100000 in
theorem ml_X11_177 : Cond.methodLink RX11 177 yX11_doAgree ∈ gt := gt_5 209 rfl rfl
set_option maxRecDepth 100000 in
theorem ml_X11_172 : Cond.methodLink RX11 172 yX11_square ∈ gt := gt_5 213 rfl rfl
set_option maxRecDepth 100000 in
theorem ml_X11_183 : Cond.methodLink RX11 183 yX11_agreeingOf ∈ gt := gt_5 221 rfl rfl
set_option maxRecDepth 100000 in
theorem ml_X11_180 : Cond.methodLink RX11 180 yX11_ones ∈ gt := gt_5 225 rfl rfl
set_option maxRecDepth 100000 in
theorem ml_X11_190 : Cond.methodLink RX11 190 yX11_commonOf ∈ gt := gt_5 232 rfl rfl
set_option maxRecDepth 100000 in
theorem ml_X11_94 : Cond.methodLink RX11 94 yX11_amount ∈ gt := gt_5 236 rfl rfl
set_option maxRecDepth 100000 in
theorem ml_X11_198 : Cond.methodLink RX11 198 yX11_areTwo ∈ gt := gt_6 3 rfl rfl
set_option maxRecDepth 100000 in
theorem ml_X11_201 : Cond.methodLink RX11 201 yX11_costs ∈ gt := gt_6 7 rfl rfl
set_option maxRecDepth 100000 in
theorem ml_X11_195 : Cond.methodLink RX11 195 yX11_together ∈ gt := gt_6 12 rfl rfl
set_option maxRecDepth 100000 in
theorem ml_X11_251 : Cond.methodLink RX11 251 yX11_finds ∈ gt := gt_6 25 rfl rfl
set_option maxRecDepth 100000 in
theorem ml_X11_224 : Cond.methodLink RX11 224 yX11_rowOf ∈ gt := gt_6 29 rfl rfl
set_option maxRecDepth 100000 in
theorem ml_X11_213 : Cond.methodLink RX11 213 yX11_add ∈ gt := gt_6 33 rfl rfl
set_option maxRecDepth 100000 in
theorem ml_X11_217 : Cond.methodLink RX11 217 yX11_middle ∈ gt := gt_6 37 rfl rfl
set_option maxRecDepth 100000 in
theorem ml_X11_240 : Cond.methodLink RX11 240 yX11_pairsOf ∈ gt := gt_6 41 rfl rfl
set_option maxRecDepth 100000 in
theorem ml_X11_243 : Cond.methodLink RX11 243 yX11_weighted ∈ gt := gt_6 45 rfl rfl
set_option maxRecDepth 100000 in
theorem ml_X11_246 : Cond.methodLink RX11 246 yX11_steps ∈ gt := gt_6 50 rfl rfl
set_option maxRecDepth 100000 in
theorem ml_X11_231 : Cond.methodLink RX11 231 yX11_clipped ∈ gt := gt_6 56 rfl rfl
set_option maxRecDepth 100000 in
theorem ml_X11_237 : Cond.methodLink RX11 237 yX11_root ∈ gt := gt_6 60 rfl rfl
set_option maxRecDepth 100000 in
theorem ml_X11_254 : Cond.methodLink RX11 254 yX11_lowest ∈ gt := gt_6 64 rfl rfl
set_option maxRecDepth 100000 in
theorem ml_X11_98 : Cond.methodLink RX11 98 yX11_divisor ∈ gt := gt_6 67 rfl rfl
set_option maxRecDepth 100000 in
theorem ml_X11_262 : Cond.methodLink RX11 262 yX11_markOf ∈ gt := gt_6 75 rfl rfl
set_option maxRecDepth 100000 in
theorem ml_X11_279 : Cond.methodLink RX11 279 yX11_isRepeat ∈ gt := gt_6 94 rfl rfl
set_option maxRecDepth 100000 in
theorem ml_X11_282 : Cond.methodLink RX11 282 yX11_withinTop ∈ gt := gt_6 98 rfl rfl
set_option maxRecDepth 100000 in
theorem ml_X11_275 : Cond.methodLink RX11 275 yX11_repeats ∈ gt := gt_6 102 rfl rfl
set_option maxRecDepth 100000 in
theorem ml_X11_285 : Cond.methodLink RX11 285 yX11_withinBottom ∈ gt := gt_6 106 rfl rfl
set_option maxRecDepth 100000 in
theorem ml_X11_288 : Cond.methodLink RX11 288 yX11_widestOf ∈ gt := gt_6 114 rfl rfl
set_option maxRecDepth 100000 in
theorem ml_X11_293 : Cond.methodLink RX11 293 yX11_scoreOf ∈ gt := gt_6 131 rfl rfl
set_option maxRecDepth 100000 in
theorem ml_X11_298 : Cond.methodLink RX11 298 yX11_wayMany ∈ gt := gt_6 140 rfl rfl
set_option maxRecDepth 100000 in
theorem ml_X11_301 : Cond.methodLink RX11 301 yX11_chanceOf ∈ gt := gt_6 144 rfl rfl
set_option maxRecDepth 100000 in
theorem ml_X11_336 : Cond.methodLink RX11 336 yX11_faultNow ∈ gt := gt_6 160 rfl rfl
set_option maxRecDepth 100000 in
theorem ml_X11_333 : Cond.methodLink RX11 333 yX11_part ∈ gt := gt_6 164 rfl rfl
set_option maxRecDepth 100000 in
theorem ml_X11_316 : Cond.methodLink RX11 316 yX11_figures ∈ gt := gt_6 168 rfl rfl
set_option maxRecDepth 100000 in
theorem ml_X11_310 : Cond.methodLink RX11 310 yX11_byteAt ∈ gt := gt_6 172 rfl rfl
set_option maxRecDepth 100000 in
theorem ml_X11_339 : Cond.methodLink RX11 339 yX11_reckons ∈ gt := gt_6 182 rfl rfl
set_option maxRecDepth 100000 in
theorem ml_X11_345 : Cond.methodLink RX11 345 yX11_lacks ∈ gt := gt_6 202 rfl rfl
set_option maxRecDepth 100000 in
theorem ml_X11_349 : Cond.methodLink RX11 349 yX11_lay ∈ gt := gt_6 206 rfl rfl
set_option maxRecDepth 100000 in
theorem ml_X11_353 : Cond.methodLink RX11 353 yX11_knownMany ∈ gt := gt_6 226 rfl rfl
set_option maxRecDepth 100000 in
theorem ml_X11_360 : Cond.methodLink RX11 360 yX11_count ∈ gt := gt_6 236 rfl rfl
theorem mn_X7_85 : (RX7, 85, yX10_nearest, "SentRound") ∈ neL := by decide +kernel
theorem mn_X6_79 : (RX6, 79, yX10_putInOrder, "SentRound") ∈ neL := by decide +kernel
theorem mn_X8_57 : (RX8, 57, yX10_nearest, "SentRound") ∈ neL := by decide +kernel
set_option maxRecDepth 100000 in
theorem ac_l : Cond.methodLink RX10 285 arraycopyName ∈ gt := gt_4 163 rfl rfl
set_option maxRecDepth 100000 in
theorem ac_n : Cond.native arraycopyName ∈ gt := gt_4 165 rfl rfl
set_option maxRecDepth 100000 in
theorem ac_s : Cond.static arraycopyName ∈ gt := gt_4 164 rfl rfl
set_option maxRecDepth 100000 in
theorem ac_i : Cond.initialized "java/lang/System" ∈ gt := gt_1 16 rfl rfl
