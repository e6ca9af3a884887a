/-! the constructors, each from its entry to its end -/
set_option maxRecDepth 100000 in
theorem aw_I : Cond.arrayClass .int ∈ gt := gt_1 94 rfl rfl
set_option maxRecDepth 100000 in
theorem aw_J : Cond.arrayClass .long ∈ gt := gt_1 138 rfl rfl
set_option maxRecDepth 100000 in
theorem aw_Z : Cond.arrayClass .boolean ∈ gt := gt_5 93 rfl rfl
set_option maxRecDepth 100000 in
theorem cO_X5 : clOk 5 2 RX5 [.long 0, .long 0] := ⟨TX5, tyX5, rfl, inG_X5, tyX5_ok, fun j hj => by
  match j, hj with
  | 0, _ => rfl
  | 1, _ => rfl, gt_1 194 rfl rfl, gt_1 7 rfl rfl⟩
set_option maxRecDepth 100000 in
theorem ko_X5_init : kOk 0 mX5_init := ⟨gt_1 7 rfl rfl, gt_1 197 rfl rfl, ⟨by decide +kernel, by decide +kernel, by decide +kernel⟩, (Nat.le_of_ble_eq_true rfl), by decide +kernel⟩
set_option maxRecDepth 100000 in
theorem im_X5_init : Cond.instanceMethod yX5_init ∈ gt := gt_1 196 rfl rfl
theorem dX5_init_0 : decode cX5_init 0 = .ok (.aload_n 0, 1) := by decide +kernel
theorem dX5_init_1 : decode cX5_init 1 = .ok (.invokespecial 1, 3) := by decide +kernel
theorem dX5_init_4 : decode cX5_init 4 = .ok (.aload_n 0, 1) := by decide +kernel
theorem dX5_init_5 : decode cX5_init 5 = .ok (.lconst 1, 1) := by decide +kernel
theorem dX5_init_6 : decode cX5_init 6 = .ok (.putfield 7, 3) := by decide +kernel
theorem dX5_init_9 : decode cX5_init 9 = .ok (.return_, 1) := by decide +kernel
set_option maxRecDepth 100000 in
theorem cO_X1 : clOk 1 12 RX1 [.int 0, .int 0, .int 0, .null, .null, .int 0, .null, .null, .null, .null, .null, .null] := ⟨TX1, tyX1, rfl, inG_X1, tyX1_ok, fun j hj => by
  match j, hj with
  | 0, _ => rfl
  | 1, _ => rfl
  | 2, _ => rfl
  | 3, _ => rfl
  | 4, _ => rfl
  | 5, _ => rfl
  | 6, _ => rfl
  | 7, _ => rfl
  | 8, _ => rfl
  | 9, _ => rfl
  | 10, _ => rfl
  | 11, _ => rfl, gt_1 26 rfl rfl, gt_1 2 rfl rfl⟩
set_option maxRecDepth 100000 in
theorem ko_X1_init : kOk 0 mX1_init := ⟨gt_1 2 rfl rfl, gt_1 29 rfl rfl, ⟨by decide +kernel, by decide +kernel, by decide +kernel⟩, (Nat.le_of_ble_eq_true rfl), by decide +kernel⟩
set_option maxRecDepth 100000 in
theorem im_X1_init : Cond.instanceMethod yX1_init ∈ gt := gt_1 28 rfl rfl
theorem dX1_init_0 : decode cX1_init 0 = .ok (.aload_n 0, 1) := by decide +kernel
theorem dX1_init_1 : decode cX1_init 1 = .ok (.invokespecial 3, 3) := by decide +kernel
theorem dX1_init_4 : decode cX1_init 4 = .ok (.aload_n 0, 1) := by decide +kernel
theorem dX1_init_5 : decode cX1_init 5 = .ok (.iconst (-1), 1) := by decide +kernel
theorem dX1_init_6 : decode cX1_init 6 = .ok (.putfield 9, 3) := by decide +kernel
theorem dX1_init_9 : decode cX1_init 9 = .ok (.aload_n 0, 1) := by decide +kernel
theorem dX1_init_10 : decode cX1_init 10 = .ok (.bipush 14, 2) := by decide +kernel
theorem dX1_init_12 : decode cX1_init 12 = .ok (.newarray .int, 2) := by decide +kernel
theorem dX1_init_14 : decode cX1_init 14 = .ok (.putfield 15, 3) := by decide +kernel
theorem dX1_init_17 : decode cX1_init 17 = .ok (.aload_n 0, 1) := by decide +kernel
theorem dX1_init_18 : decode cX1_init 18 = .ok (.bipush 14, 2) := by decide +kernel
theorem dX1_init_20 : decode cX1_init 20 = .ok (.newarray .int, 2) := by decide +kernel
theorem dX1_init_22 : decode cX1_init 22 = .ok (.putfield 19, 3) := by decide +kernel
theorem dX1_init_25 : decode cX1_init 25 = .ok (.aload_n 0, 1) := by decide +kernel
theorem dX1_init_26 : decode cX1_init 26 = .ok (.sipush 150, 3) := by decide +kernel
theorem dX1_init_29 : decode cX1_init 29 = .ok (.newarray .int, 2) := by decide +kernel
theorem dX1_init_31 : decode cX1_init 31 = .ok (.putfield 22, 3) := by decide +kernel
theorem dX1_init_34 : decode cX1_init 34 = .ok (.aload_n 0, 1) := by decide +kernel
theorem dX1_init_35 : decode cX1_init 35 = .ok (.sipush 150, 3) := by decide +kernel
theorem dX1_init_38 : decode cX1_init 38 = .ok (.newarray .int, 2) := by decide +kernel
theorem dX1_init_40 : decode cX1_init 40 = .ok (.putfield 25, 3) := by decide +kernel
theorem dX1_init_43 : decode cX1_init 43 = .ok (.aload_n 0, 1) := by decide +kernel
theorem dX1_init_44 : decode cX1_init 44 = .ok (.sipush 150, 3) := by decide +kernel
theorem dX1_init_47 : decode cX1_init 47 = .ok (.newarray .int, 2) := by decide +kernel
theorem dX1_init_49 : decode cX1_init 49 = .ok (.putfield 28, 3) := by decide +kernel
theorem dX1_init_52 : decode cX1_init 52 = .ok (.aload_n 0, 1) := by decide +kernel
theorem dX1_init_53 : decode cX1_init 53 = .ok (.sipush 150, 3) := by decide +kernel
theorem dX1_init_56 : decode cX1_init 56 = .ok (.newarray .int, 2) := by decide +kernel
theorem dX1_init_58 : decode cX1_init 58 = .ok (.putfield 31, 3) := by decide +kernel
theorem dX1_init_61 : decode cX1_init 61 = .ok (.aload_n 0, 1) := by decide +kernel
theorem dX1_init_62 : decode cX1_init 62 = .ok (.sipush 150, 3) := by decide +kernel
theorem dX1_init_65 : decode cX1_init 65 = .ok (.newarray .int, 2) := by decide +kernel
theorem dX1_init_67 : decode cX1_init 67 = .ok (.putfield 34, 3) := by decide +kernel
theorem dX1_init_70 : decode cX1_init 70 = .ok (.aload_n 0, 1) := by decide +kernel
theorem dX1_init_71 : decode cX1_init 71 = .ok (.sipush 150, 3) := by decide +kernel
theorem dX1_init_74 : decode cX1_init 74 = .ok (.newarray .int, 2) := by decide +kernel
theorem dX1_init_76 : decode cX1_init 76 = .ok (.putfield 37, 3) := by decide +kernel
theorem dX1_init_79 : decode cX1_init 79 = .ok (.return_, 1) := by decide +kernel
set_option maxRecDepth 100000 in
theorem cO_X7 : clOk 7 9 RX7 [.null, .null, .null, .null, .null, .null, .null, .null, .null] := ⟨TX7, tyX7, rfl, inG_X7, tyX7_ok, fun j hj => by
  match j, hj with
  | 0, _ => rfl
  | 1, _ => rfl
  | 2, _ => rfl
  | 3, _ => rfl
  | 4, _ => rfl
  | 5, _ => rfl
  | 6, _ => rfl
  | 7, _ => rfl
  | 8, _ => rfl, gt_1 96 rfl rfl, gt_1 3 rfl rfl⟩
set_option maxRecDepth 100000 in
theorem ko_X7_init : kOk 1 mX7_init := ⟨gt_1 3 rfl rfl, gt_1 99 rfl rfl, ⟨by decide +kernel, by decide +kernel, by decide +kernel⟩, (Nat.le_of_ble_eq_true rfl), by decide +kernel⟩
set_option maxRecDepth 100000 in
theorem im_X7_init : Cond.instanceMethod yX7_init ∈ gt := gt_1 98 rfl rfl
theorem dX7_init_0 : decode cX7_init 0 = .ok (.aload_n 0, 1) := by decide +kernel
theorem dX7_init_1 : decode cX7_init 1 = .ok (.invokespecial 3, 3) := by decide +kernel
theorem dX7_init_4 : decode cX7_init 4 = .ok (.aload_n 0, 1) := by decide +kernel
theorem dX7_init_5 : decode cX7_init 5 = .ok (.iconst 4, 1) := by decide +kernel
theorem dX7_init_6 : decode cX7_init 6 = .ok (.newarray .int, 2) := by decide +kernel
theorem dX7_init_8 : decode cX7_init 8 = .ok (.putfield 9, 3) := by decide +kernel
theorem dX7_init_11 : decode cX7_init 11 = .ok (.aload_n 0, 1) := by decide +kernel
theorem dX7_init_12 : decode cX7_init 12 = .ok (.iconst 4, 1) := by decide +kernel
theorem dX7_init_13 : decode cX7_init 13 = .ok (.bipush 8, 2) := by decide +kernel
theorem dX7_init_15 : decode cX7_init 15 = .ok (.multianewarray 15 2, 4) := by decide +kernel
theorem dX7_init_19 : decode cX7_init 19 = .ok (.putfield 17, 3) := by decide +kernel
theorem dX7_init_22 : decode cX7_init 22 = .ok (.aload_n 0, 1) := by decide +kernel
theorem dX7_init_23 : decode cX7_init 23 = .ok (.iconst 4, 1) := by decide +kernel
theorem dX7_init_24 : decode cX7_init 24 = .ok (.bipush 8, 2) := by decide +kernel
theorem dX7_init_26 : decode cX7_init 26 = .ok (.multianewarray 15 2, 4) := by decide +kernel
theorem dX7_init_30 : decode cX7_init 30 = .ok (.putfield 20, 3) := by decide +kernel
theorem dX7_init_33 : decode cX7_init 33 = .ok (.aload_n 0, 1) := by decide +kernel
theorem dX7_init_34 : decode cX7_init 34 = .ok (.iconst 4, 1) := by decide +kernel
theorem dX7_init_35 : decode cX7_init 35 = .ok (.bipush 8, 2) := by decide +kernel
theorem dX7_init_37 : decode cX7_init 37 = .ok (.multianewarray 15 2, 4) := by decide +kernel
theorem dX7_init_41 : decode cX7_init 41 = .ok (.putfield 23, 3) := by decide +kernel
theorem dX7_init_44 : decode cX7_init 44 = .ok (.aload_n 0, 1) := by decide +kernel
theorem dX7_init_45 : decode cX7_init 45 = .ok (.bipush 14, 2) := by decide +kernel
theorem dX7_init_47 : decode cX7_init 47 = .ok (.newarray .long, 2) := by decide +kernel
theorem dX7_init_49 : decode cX7_init 49 = .ok (.putfield 26, 3) := by decide +kernel
theorem dX7_init_52 : decode cX7_init 52 = .ok (.aload_n 0, 1) := by decide +kernel
theorem dX7_init_53 : decode cX7_init 53 = .ok (.sipush 150, 3) := by decide +kernel
theorem dX7_init_56 : decode cX7_init 56 = .ok (.newarray .int, 2) := by decide +kernel
theorem dX7_init_58 : decode cX7_init 58 = .ok (.putfield 30, 3) := by decide +kernel
theorem dX7_init_61 : decode cX7_init 61 = .ok (.aload_n 0, 1) := by decide +kernel
theorem dX7_init_62 : decode cX7_init 62 = .ok (.iconst 4, 1) := by decide +kernel
theorem dX7_init_63 : decode cX7_init 63 = .ok (.bipush 14, 2) := by decide +kernel
theorem dX7_init_65 : decode cX7_init 65 = .ok (.multianewarray 15 2, 4) := by decide +kernel
theorem dX7_init_69 : decode cX7_init 69 = .ok (.putfield 33, 3) := by decide +kernel
theorem dX7_init_72 : decode cX7_init 72 = .ok (.aload_n 0, 1) := by decide +kernel
theorem dX7_init_73 : decode cX7_init 73 = .ok (.iconst 4, 1) := by decide +kernel
theorem dX7_init_74 : decode cX7_init 74 = .ok (.bipush 14, 2) := by decide +kernel
theorem dX7_init_76 : decode cX7_init 76 = .ok (.multianewarray 15 2, 4) := by decide +kernel
theorem dX7_init_80 : decode cX7_init 80 = .ok (.putfield 36, 3) := by decide +kernel
theorem dX7_init_83 : decode cX7_init 83 = .ok (.aload_n 0, 1) := by decide +kernel
theorem dX7_init_84 : decode cX7_init 84 = .ok (.aload_n 1, 1) := by decide +kernel
theorem dX7_init_85 : decode cX7_init 85 = .ok (.putfield 39, 3) := by decide +kernel
theorem dX7_init_88 : decode cX7_init 88 = .ok (.return_, 1) := by decide +kernel
set_option maxRecDepth 100000 in
theorem cO_X0 : clOk 0 6 RX0 [.null, .null, .null, .int 0, .int 0, .int 0] := ⟨TX0, tyX0, rfl, inG_X0, tyX0_ok, fun j hj => by
  match j, hj with
  | 0, _ => rfl
  | 1, _ => rfl
  | 2, _ => rfl
  | 3, _ => rfl
  | 4, _ => rfl
  | 5, _ => rfl, gt_1 140 rfl rfl, gt_1 4 rfl rfl⟩
set_option maxRecDepth 100000 in
theorem ko_X0_init : kOk 2 mX0_init := ⟨gt_1 4 rfl rfl, gt_1 143 rfl rfl, ⟨by decide +kernel, by decide +kernel, by decide +kernel⟩, (Nat.le_of_ble_eq_true rfl), by decide +kernel⟩
set_option maxRecDepth 100000 in
theorem im_X0_init : Cond.instanceMethod yX0_init ∈ gt := gt_1 142 rfl rfl
theorem dX0_init_0 : decode cX0_init 0 = .ok (.aload_n 0, 1) := by decide +kernel
theorem dX0_init_1 : decode cX0_init 1 = .ok (.invokespecial 3, 3) := by decide +kernel
theorem dX0_init_4 : decode cX0_init 4 = .ok (.aload_n 0, 1) := by decide +kernel
theorem dX0_init_5 : decode cX0_init 5 = .ok (.bipush 14, 2) := by decide +kernel
theorem dX0_init_7 : decode cX0_init 7 = .ok (.newarray .int, 2) := by decide +kernel
theorem dX0_init_9 : decode cX0_init 9 = .ok (.putfield 9, 3) := by decide +kernel
theorem dX0_init_12 : decode cX0_init 12 = .ok (.aload_n 0, 1) := by decide +kernel
theorem dX0_init_13 : decode cX0_init 13 = .ok (.iconst 2, 1) := by decide +kernel
theorem dX0_init_14 : decode cX0_init 14 = .ok (.putfield 15, 3) := by decide +kernel
theorem dX0_init_17 : decode cX0_init 17 = .ok (.aload_n 0, 1) := by decide +kernel
theorem dX0_init_18 : decode cX0_init 18 = .ok (.aload_n 1, 1) := by decide +kernel
theorem dX0_init_19 : decode cX0_init 19 = .ok (.putfield 19, 3) := by decide +kernel
theorem dX0_init_22 : decode cX0_init 22 = .ok (.aload_n 0, 1) := by decide +kernel
theorem dX0_init_23 : decode cX0_init 23 = .ok (.aload_n 2, 1) := by decide +kernel
theorem dX0_init_24 : decode cX0_init 24 = .ok (.putfield 23, 3) := by decide +kernel
theorem dX0_init_27 : decode cX0_init 27 = .ok (.return_, 1) := by decide +kernel
set_option maxRecDepth 100000 in
theorem cO_X2 : clOk 2 4 RX2 [.null, .null, .null, .null] := ⟨TX2, tyX2, rfl, inG_X2, tyX2_ok, fun j hj => by
  match j, hj with
  | 0, _ => rfl
  | 1, _ => rfl
  | 2, _ => rfl
  | 3, _ => rfl, gt_1 168 rfl rfl, gt_1 5 rfl rfl⟩
set_option maxRecDepth 100000 in
theorem ko_X2_init : kOk 2 mX2_init := ⟨gt_1 5 rfl rfl, gt_1 171 rfl rfl, ⟨by decide +kernel, by decide +kernel, by decide +kernel⟩, (Nat.le_of_ble_eq_true rfl), by decide +kernel⟩
set_option maxRecDepth 100000 in
theorem im_X2_init : Cond.instanceMethod yX2_init ∈ gt := gt_1 170 rfl rfl
theorem dX2_init_0 : decode cX2_init 0 = .ok (.aload_n 0, 1) := by decide +kernel
theorem dX2_init_1 : decode cX2_init 1 = .ok (.invokespecial 3, 3) := by decide +kernel
theorem dX2_init_4 : decode cX2_init 4 = .ok (.aload_n 0, 1) := by decide +kernel
theorem dX2_init_5 : decode cX2_init 5 = .ok (.bipush 14, 2) := by decide +kernel
theorem dX2_init_7 : decode cX2_init 7 = .ok (.newarray .int, 2) := by decide +kernel
theorem dX2_init_9 : decode cX2_init 9 = .ok (.putfield 9, 3) := by decide +kernel
theorem dX2_init_12 : decode cX2_init 12 = .ok (.aload_n 0, 1) := by decide +kernel
theorem dX2_init_13 : decode cX2_init 13 = .ok (.bipush 14, 2) := by decide +kernel
theorem dX2_init_15 : decode cX2_init 15 = .ok (.newarray .int, 2) := by decide +kernel
theorem dX2_init_17 : decode cX2_init 17 = .ok (.putfield 15, 3) := by decide +kernel
theorem dX2_init_20 : decode cX2_init 20 = .ok (.aload_n 0, 1) := by decide +kernel
theorem dX2_init_21 : decode cX2_init 21 = .ok (.aload_n 1, 1) := by decide +kernel
theorem dX2_init_22 : decode cX2_init 22 = .ok (.putfield 18, 3) := by decide +kernel
theorem dX2_init_25 : decode cX2_init 25 = .ok (.aload_n 0, 1) := by decide +kernel
theorem dX2_init_26 : decode cX2_init 26 = .ok (.aload_n 2, 1) := by decide +kernel
theorem dX2_init_27 : decode cX2_init 27 = .ok (.putfield 22, 3) := by decide +kernel
theorem dX2_init_30 : decode cX2_init 30 = .ok (.return_, 1) := by decide +kernel
set_option maxRecDepth 100000 in
theorem cO_X6 : clOk 6 7 RX6 [.null, .null, .null, .null, .null, .int 0, .null] := ⟨TX6, tyX6, rfl, inG_X6, tyX6_ok, fun j hj => by
  match j, hj with
  | 0, _ => rfl
  | 1, _ => rfl
  | 2, _ => rfl
  | 3, _ => rfl
  | 4, _ => rfl
  | 5, _ => rfl
  | 6, _ => rfl, gt_1 188 rfl rfl, gt_1 6 rfl rfl⟩
set_option maxRecDepth 100000 in
theorem ko_X6_init : kOk 2 mX6_init := ⟨gt_1 6 rfl rfl, gt_1 191 rfl rfl, ⟨by decide +kernel, by decide +kernel, by decide +kernel⟩, (Nat.le_of_ble_eq_true rfl), by decide +kernel⟩
set_option maxRecDepth 100000 in
theorem im_X6_init : Cond.instanceMethod yX6_init ∈ gt := gt_1 190 rfl rfl
theorem dX6_init_0 : decode cX6_init 0 = .ok (.aload_n 0, 1) := by decide +kernel
theorem dX6_init_1 : decode cX6_init 1 = .ok (.invokespecial 3, 3) := by decide +kernel
theorem dX6_init_4 : decode cX6_init 4 = .ok (.aload_n 0, 1) := by decide +kernel
theorem dX6_init_5 : decode cX6_init 5 = .ok (.bipush 14, 2) := by decide +kernel
theorem dX6_init_7 : decode cX6_init 7 = .ok (.newarray .long, 2) := by decide +kernel
theorem dX6_init_9 : decode cX6_init 9 = .ok (.putfield 9, 3) := by decide +kernel
theorem dX6_init_12 : decode cX6_init 12 = .ok (.aload_n 0, 1) := by decide +kernel
theorem dX6_init_13 : decode cX6_init 13 = .ok (.bipush 14, 2) := by decide +kernel
theorem dX6_init_15 : decode cX6_init 15 = .ok (.newarray .long, 2) := by decide +kernel
theorem dX6_init_17 : decode cX6_init 17 = .ok (.putfield 15, 3) := by decide +kernel
theorem dX6_init_20 : decode cX6_init 20 = .ok (.aload_n 0, 1) := by decide +kernel
theorem dX6_init_21 : decode cX6_init 21 = .ok (.bipush 105, 2) := by decide +kernel
theorem dX6_init_23 : decode cX6_init 23 = .ok (.newarray .long, 2) := by decide +kernel
theorem dX6_init_25 : decode cX6_init 25 = .ok (.putfield 18, 3) := by decide +kernel
theorem dX6_init_28 : decode cX6_init 28 = .ok (.aload_n 0, 1) := by decide +kernel
theorem dX6_init_29 : decode cX6_init 29 = .ok (.new 21, 3) := by decide +kernel
theorem dX6_init_32 : decode cX6_init 32 = .ok (.dup, 1) := by decide +kernel
theorem dX6_init_33 : decode cX6_init 33 = .ok (.invokespecial 23, 3) := by decide +kernel
theorem dX6_init_36 : decode cX6_init 36 = .ok (.putfield 24, 3) := by decide +kernel
theorem dX6_init_39 : decode cX6_init 39 = .ok (.aload_n 0, 1) := by decide +kernel
theorem dX6_init_40 : decode cX6_init 40 = .ok (.aload_n 1, 1) := by decide +kernel
theorem dX6_init_41 : decode cX6_init 41 = .ok (.putfield 28, 3) := by decide +kernel
theorem dX6_init_44 : decode cX6_init 44 = .ok (.aload_n 0, 1) := by decide +kernel
theorem dX6_init_45 : decode cX6_init 45 = .ok (.aload_n 2, 1) := by decide +kernel
theorem dX6_init_46 : decode cX6_init 46 = .ok (.putfield 32, 3) := by decide +kernel
theorem dX6_init_49 : decode cX6_init 49 = .ok (.return_, 1) := by decide +kernel
set_option maxRecDepth 100000 in
theorem cO_X8 : clOk 8 5 RX8 [.null, .null, .null, .null, .null] := ⟨TX8, tyX8, rfl, inG_X8, tyX8_ok, fun j hj => by
  match j, hj with
  | 0, _ => rfl
  | 1, _ => rfl
  | 2, _ => rfl
  | 3, _ => rfl
  | 4, _ => rfl, gt_1 234 rfl rfl, gt_1 8 rfl rfl⟩
set_option maxRecDepth 100000 in
theorem ko_X8_init : kOk 2 mX8_init := ⟨gt_1 8 rfl rfl, gt_1 237 rfl rfl, ⟨by decide +kernel, by decide +kernel, by decide +kernel⟩, (Nat.le_of_ble_eq_true rfl), by decide +kernel⟩
set_option maxRecDepth 100000 in
theorem im_X8_init : Cond.instanceMethod yX8_init ∈ gt := gt_1 236 rfl rfl
theorem dX8_init_0 : decode cX8_init 0 = .ok (.aload_n 0, 1) := by decide +kernel
theorem dX8_init_1 : decode cX8_init 1 = .ok (.invokespecial 3, 3) := by decide +kernel
theorem dX8_init_4 : decode cX8_init 4 = .ok (.aload_n 0, 1) := by decide +kernel
theorem dX8_init_5 : decode cX8_init 5 = .ok (.bipush 14, 2) := by decide +kernel
theorem dX8_init_7 : decode cX8_init 7 = .ok (.newarray .long, 2) := by decide +kernel
theorem dX8_init_9 : decode cX8_init 9 = .ok (.putfield 9, 3) := by decide +kernel
theorem dX8_init_12 : decode cX8_init 12 = .ok (.aload_n 0, 1) := by decide +kernel
theorem dX8_init_13 : decode cX8_init 13 = .ok (.bipush 14, 2) := by decide +kernel
theorem dX8_init_15 : decode cX8_init 15 = .ok (.newarray .long, 2) := by decide +kernel
theorem dX8_init_17 : decode cX8_init 17 = .ok (.putfield 15, 3) := by decide +kernel
theorem dX8_init_20 : decode cX8_init 20 = .ok (.aload_n 0, 1) := by decide +kernel
theorem dX8_init_21 : decode cX8_init 21 = .ok (.new 18, 3) := by decide +kernel
theorem dX8_init_24 : decode cX8_init 24 = .ok (.dup, 1) := by decide +kernel
theorem dX8_init_25 : decode cX8_init 25 = .ok (.invokespecial 20, 3) := by decide +kernel
theorem dX8_init_28 : decode cX8_init 28 = .ok (.putfield 21, 3) := by decide +kernel
theorem dX8_init_31 : decode cX8_init 31 = .ok (.aload_n 0, 1) := by decide +kernel
theorem dX8_init_32 : decode cX8_init 32 = .ok (.aload_n 1, 1) := by decide +kernel
theorem dX8_init_33 : decode cX8_init 33 = .ok (.putfield 25, 3) := by decide +kernel
theorem dX8_init_36 : decode cX8_init 36 = .ok (.aload_n 0, 1) := by decide +kernel
theorem dX8_init_37 : decode cX8_init 37 = .ok (.aload_n 2, 1) := by decide +kernel
theorem dX8_init_38 : decode cX8_init 38 = .ok (.putfield 29, 3) := by decide +kernel
theorem dX8_init_41 : decode cX8_init 41 = .ok (.return_, 1) := by decide +kernel
set_option maxRecDepth 100000 in
theorem cO_X3 : clOk 3 6 RX3 [.null, .null, .null, .null, .int 0, .long 0] := ⟨TX3, tyX3, rfl, inG_X3, tyX3_ok, fun j hj => by
  match j, hj with
  | 0, _ => rfl
  | 1, _ => rfl
  | 2, _ => rfl
  | 3, _ => rfl
  | 4, _ => rfl
  | 5, _ => rfl, gt_2 19 rfl rfl, gt_1 9 rfl rfl⟩
set_option maxRecDepth 100000 in
theorem ko_X3_init : kOk 2 mX3_init := ⟨gt_1 9 rfl rfl, gt_2 22 rfl rfl, ⟨by decide +kernel, by decide +kernel, by decide +kernel⟩, (Nat.le_of_ble_eq_true rfl), by decide +kernel⟩
set_option maxRecDepth 100000 in
theorem im_X3_init : Cond.instanceMethod yX3_init ∈ gt := gt_2 21 rfl rfl
theorem dX3_init_0 : decode cX3_init 0 = .ok (.aload_n 0, 1) := by decide +kernel
theorem dX3_init_1 : decode cX3_init 1 = .ok (.invokespecial 3, 3) := by decide +kernel
theorem dX3_init_4 : decode cX3_init 4 = .ok (.aload_n 0, 1) := by decide +kernel
theorem dX3_init_5 : decode cX3_init 5 = .ok (.bipush 14, 2) := by decide +kernel
theorem dX3_init_7 : decode cX3_init 7 = .ok (.newarray .int, 2) := by decide +kernel
theorem dX3_init_9 : decode cX3_init 9 = .ok (.putfield 9, 3) := by decide +kernel
theorem dX3_init_12 : decode cX3_init 12 = .ok (.aload_n 0, 1) := by decide +kernel
theorem dX3_init_13 : decode cX3_init 13 = .ok (.iconst 2, 1) := by decide +kernel
theorem dX3_init_14 : decode cX3_init 14 = .ok (.newarray .int, 2) := by decide +kernel
theorem dX3_init_16 : decode cX3_init 16 = .ok (.putfield 15, 3) := by decide +kernel
theorem dX3_init_19 : decode cX3_init 19 = .ok (.aload_n 0, 1) := by decide +kernel
theorem dX3_init_20 : decode cX3_init 20 = .ok (.aload_n 1, 1) := by decide +kernel
theorem dX3_init_21 : decode cX3_init 21 = .ok (.putfield 18, 3) := by decide +kernel
theorem dX3_init_24 : decode cX3_init 24 = .ok (.aload_n 0, 1) := by decide +kernel
theorem dX3_init_25 : decode cX3_init 25 = .ok (.aload_n 2, 1) := by decide +kernel
theorem dX3_init_26 : decode cX3_init 26 = .ok (.putfield 22, 3) := by decide +kernel
theorem dX3_init_29 : decode cX3_init 29 = .ok (.return_, 1) := by decide +kernel
set_option maxRecDepth 100000 in
theorem cO_X4 : clOk 4 5 RX4 [.null, .null, .int 0, .long 0, .int 0] := ⟨TX4, tyX4, rfl, inG_X4, tyX4_ok, fun j hj => by
  match j, hj with
  | 0, _ => rfl
  | 1, _ => rfl
  | 2, _ => rfl
  | 3, _ => rfl
  | 4, _ => rfl, gt_2 47 rfl rfl, gt_1 10 rfl rfl⟩
set_option maxRecDepth 100000 in
theorem ko_X4_init : kOk 0 mX4_init := ⟨gt_1 10 rfl rfl, gt_2 50 rfl rfl, ⟨by decide +kernel, by decide +kernel, by decide +kernel⟩, (Nat.le_of_ble_eq_true rfl), by decide +kernel⟩
set_option maxRecDepth 100000 in
theorem im_X4_init : Cond.instanceMethod yX4_init ∈ gt := gt_2 49 rfl rfl
theorem dX4_init_0 : decode cX4_init 0 = .ok (.aload_n 0, 1) := by decide +kernel
theorem dX4_init_1 : decode cX4_init 1 = .ok (.invokespecial 3, 3) := by decide +kernel
theorem dX4_init_4 : decode cX4_init 4 = .ok (.aload_n 0, 1) := by decide +kernel
theorem dX4_init_5 : decode cX4_init 5 = .ok (.bipush 60, 2) := by decide +kernel
theorem dX4_init_7 : decode cX4_init 7 = .ok (.newarray .int, 2) := by decide +kernel
theorem dX4_init_9 : decode cX4_init 9 = .ok (.putfield 9, 3) := by decide +kernel
theorem dX4_init_12 : decode cX4_init 12 = .ok (.aload_n 0, 1) := by decide +kernel
theorem dX4_init_13 : decode cX4_init 13 = .ok (.new 15, 3) := by decide +kernel
theorem dX4_init_16 : decode cX4_init 16 = .ok (.dup, 1) := by decide +kernel
theorem dX4_init_17 : decode cX4_init 17 = .ok (.invokespecial 17, 3) := by decide +kernel
theorem dX4_init_20 : decode cX4_init 20 = .ok (.putfield 18, 3) := by decide +kernel
theorem dX4_init_23 : decode cX4_init 23 = .ok (.return_, 1) := by decide +kernel
set_option maxRecDepth 100000 in
theorem cO_X9 : clOk 9 4 RX9 [.null, .null, .null, .int 0] := ⟨TX9, tyX9, rfl, inG_X9, tyX9_ok, fun j hj => by
  match j, hj with
  | 0, _ => rfl
  | 1, _ => rfl
  | 2, _ => rfl
  | 3, _ => rfl, gt_2 72 rfl rfl, gt_1 11 rfl rfl⟩
set_option maxRecDepth 100000 in
theorem ko_X9_init : kOk 0 mX9_init := ⟨gt_1 11 rfl rfl, gt_2 75 rfl rfl, ⟨by decide +kernel, by decide +kernel, by decide +kernel⟩, (Nat.le_of_ble_eq_true rfl), by decide +kernel⟩
set_option maxRecDepth 100000 in
theorem im_X9_init : Cond.instanceMethod yX9_init ∈ gt := gt_2 74 rfl rfl
theorem dX9_init_0 : decode cX9_init 0 = .ok (.aload_n 0, 1) := by decide +kernel
theorem dX9_init_1 : decode cX9_init 1 = .ok (.invokespecial 3, 3) := by decide +kernel
theorem dX9_init_4 : decode cX9_init 4 = .ok (.aload_n 0, 1) := by decide +kernel
theorem dX9_init_5 : decode cX9_init 5 = .ok (.iconst 4, 1) := by decide +kernel
theorem dX9_init_6 : decode cX9_init 6 = .ok (.bipush 60, 2) := by decide +kernel
theorem dX9_init_8 : decode cX9_init 8 = .ok (.multianewarray 9 2, 4) := by decide +kernel
theorem dX9_init_12 : decode cX9_init 12 = .ok (.putfield 11, 3) := by decide +kernel
theorem dX9_init_15 : decode cX9_init 15 = .ok (.aload_n 0, 1) := by decide +kernel
theorem dX9_init_16 : decode cX9_init 16 = .ok (.iconst 4, 1) := by decide +kernel
theorem dX9_init_17 : decode cX9_init 17 = .ok (.newarray .int, 2) := by decide +kernel
theorem dX9_init_19 : decode cX9_init 19 = .ok (.putfield 16, 3) := by decide +kernel
theorem dX9_init_22 : decode cX9_init 22 = .ok (.aload_n 0, 1) := by decide +kernel
theorem dX9_init_23 : decode cX9_init 23 = .ok (.iconst 4, 1) := by decide +kernel
theorem dX9_init_24 : decode cX9_init 24 = .ok (.newarray .int, 2) := by decide +kernel
theorem dX9_init_26 : decode cX9_init 26 = .ok (.putfield 20, 3) := by decide +kernel
theorem dX9_init_29 : decode cX9_init 29 = .ok (.aload_n 0, 1) := by decide +kernel
theorem dX9_init_30 : decode cX9_init 30 = .ok (.getfield 16, 3) := by decide +kernel
theorem dX9_init_33 : decode cX9_init 33 = .ok (.iconst (-1), 1) := by decide +kernel
theorem dX9_init_34 : decode cX9_init 34 = .ok (.invokestatic 23, 3) := by decide +kernel
theorem dX9_init_37 : decode cX9_init 37 = .ok (.return_, 1) := by decide +kernel
set_option maxRecDepth 100000 in
theorem cO_X10 : clOk 10 9 RX10 [.null, .null, .null, .null, .null, .null, .null, .null, .null] := ⟨TX10, tyX10, rfl, inG_X10, tyX10_ok, fun j hj => by
  match j, hj with
  | 0, _ => rfl
  | 1, _ => rfl
  | 2, _ => rfl
  | 3, _ => rfl
  | 4, _ => rfl
  | 5, _ => rfl
  | 6, _ => rfl
  | 7, _ => rfl
  | 8, _ => rfl, gt_1 18 rfl rfl, gt_1 1 rfl rfl⟩
set_option maxRecDepth 100000 in
theorem ko_X10_init : kOk 0 mX10_init := ⟨gt_1 1 rfl rfl, gt_1 21 rfl rfl, ⟨by decide +kernel, by decide +kernel, by decide +kernel⟩, (Nat.le_of_ble_eq_true rfl), by decide +kernel⟩
set_option maxRecDepth 100000 in
theorem im_X10_init : Cond.instanceMethod yX10_init ∈ gt := gt_1 20 rfl rfl
theorem dX10_init_0 : decode cX10_init 0 = .ok (.aload_n 0, 1) := by decide +kernel
theorem dX10_init_1 : decode cX10_init 1 = .ok (.invokespecial 3, 3) := by decide +kernel
theorem dX10_init_4 : decode cX10_init 4 = .ok (.aload_n 0, 1) := by decide +kernel
theorem dX10_init_5 : decode cX10_init 5 = .ok (.new 9, 3) := by decide +kernel
theorem dX10_init_8 : decode cX10_init 8 = .ok (.dup, 1) := by decide +kernel
theorem dX10_init_9 : decode cX10_init 9 = .ok (.invokespecial 11, 3) := by decide +kernel
theorem dX10_init_12 : decode cX10_init 12 = .ok (.putfield 12, 3) := by decide +kernel
theorem dX10_init_15 : decode cX10_init 15 = .ok (.aload_n 0, 1) := by decide +kernel
theorem dX10_init_16 : decode cX10_init 16 = .ok (.new 18, 3) := by decide +kernel
theorem dX10_init_19 : decode cX10_init 19 = .ok (.dup, 1) := by decide +kernel
theorem dX10_init_20 : decode cX10_init 20 = .ok (.aload_n 0, 1) := by decide +kernel
theorem dX10_init_21 : decode cX10_init 21 = .ok (.getfield 12, 3) := by decide +kernel
theorem dX10_init_24 : decode cX10_init 24 = .ok (.invokespecial 20, 3) := by decide +kernel
theorem dX10_init_27 : decode cX10_init 27 = .ok (.putfield 23, 3) := by decide +kernel
theorem dX10_init_30 : decode cX10_init 30 = .ok (.aload_n 0, 1) := by decide +kernel
theorem dX10_init_31 : decode cX10_init 31 = .ok (.new 27, 3) := by decide +kernel
theorem dX10_init_34 : decode cX10_init 34 = .ok (.dup, 1) := by decide +kernel
theorem dX10_init_35 : decode cX10_init 35 = .ok (.aload_n 0, 1) := by decide +kernel
theorem dX10_init_36 : decode cX10_init 36 = .ok (.getfield 12, 3) := by decide +kernel
theorem dX10_init_39 : decode cX10_init 39 = .ok (.aload_n 0, 1) := by decide +kernel
theorem dX10_init_40 : decode cX10_init 40 = .ok (.getfield 23, 3) := by decide +kernel
theorem dX10_init_43 : decode cX10_init 43 = .ok (.invokespecial 29, 3) := by decide +kernel
theorem dX10_init_46 : decode cX10_init 46 = .ok (.putfield 32, 3) := by decide +kernel
theorem dX10_init_49 : decode cX10_init 49 = .ok (.aload_n 0, 1) := by decide +kernel
theorem dX10_init_50 : decode cX10_init 50 = .ok (.new 36, 3) := by decide +kernel
theorem dX10_init_53 : decode cX10_init 53 = .ok (.dup, 1) := by decide +kernel
theorem dX10_init_54 : decode cX10_init 54 = .ok (.aload_n 0, 1) := by decide +kernel
theorem dX10_init_55 : decode cX10_init 55 = .ok (.getfield 12, 3) := by decide +kernel
theorem dX10_init_58 : decode cX10_init 58 = .ok (.aload_n 0, 1) := by decide +kernel
theorem dX10_init_59 : decode cX10_init 59 = .ok (.getfield 23, 3) := by decide +kernel
theorem dX10_init_62 : decode cX10_init 62 = .ok (.invokespecial 38, 3) := by decide +kernel
theorem dX10_init_65 : decode cX10_init 65 = .ok (.putfield 39, 3) := by decide +kernel
theorem dX10_init_68 : decode cX10_init 68 = .ok (.aload_n 0, 1) := by decide +kernel
theorem dX10_init_69 : decode cX10_init 69 = .ok (.new 43, 3) := by decide +kernel
theorem dX10_init_72 : decode cX10_init 72 = .ok (.dup, 1) := by decide +kernel
theorem dX10_init_73 : decode cX10_init 73 = .ok (.aload_n 0, 1) := by decide +kernel
theorem dX10_init_74 : decode cX10_init 74 = .ok (.getfield 12, 3) := by decide +kernel
theorem dX10_init_77 : decode cX10_init 77 = .ok (.aload_n 0, 1) := by decide +kernel
theorem dX10_init_78 : decode cX10_init 78 = .ok (.getfield 23, 3) := by decide +kernel
theorem dX10_init_81 : decode cX10_init 81 = .ok (.invokespecial 45, 3) := by decide +kernel
theorem dX10_init_84 : decode cX10_init 84 = .ok (.putfield 46, 3) := by decide +kernel
theorem dX10_init_87 : decode cX10_init 87 = .ok (.aload_n 0, 1) := by decide +kernel
theorem dX10_init_88 : decode cX10_init 88 = .ok (.new 50, 3) := by decide +kernel
theorem dX10_init_91 : decode cX10_init 91 = .ok (.dup, 1) := by decide +kernel
theorem dX10_init_92 : decode cX10_init 92 = .ok (.aload_n 0, 1) := by decide +kernel
theorem dX10_init_93 : decode cX10_init 93 = .ok (.getfield 12, 3) := by decide +kernel
theorem dX10_init_96 : decode cX10_init 96 = .ok (.aload_n 0, 1) := by decide +kernel
theorem dX10_init_97 : decode cX10_init 97 = .ok (.getfield 23, 3) := by decide +kernel
theorem dX10_init_100 : decode cX10_init 100 = .ok (.invokespecial 52, 3) := by decide +kernel
theorem dX10_init_103 : decode cX10_init 103 = .ok (.putfield 53, 3) := by decide +kernel
theorem dX10_init_106 : decode cX10_init 106 = .ok (.aload_n 0, 1) := by decide +kernel
theorem dX10_init_107 : decode cX10_init 107 = .ok (.new 57, 3) := by decide +kernel
theorem dX10_init_110 : decode cX10_init 110 = .ok (.dup, 1) := by decide +kernel
theorem dX10_init_111 : decode cX10_init 111 = .ok (.aload_n 0, 1) := by decide +kernel
theorem dX10_init_112 : decode cX10_init 112 = .ok (.getfield 12, 3) := by decide +kernel
theorem dX10_init_115 : decode cX10_init 115 = .ok (.aload_n 0, 1) := by decide +kernel
theorem dX10_init_116 : decode cX10_init 116 = .ok (.getfield 23, 3) := by decide +kernel
theorem dX10_init_119 : decode cX10_init 119 = .ok (.invokespecial 59, 3) := by decide +kernel
theorem dX10_init_122 : decode cX10_init 122 = .ok (.putfield 60, 3) := by decide +kernel
theorem dX10_init_125 : decode cX10_init 125 = .ok (.aload_n 0, 1) := by decide +kernel
theorem dX10_init_126 : decode cX10_init 126 = .ok (.new 64, 3) := by decide +kernel
theorem dX10_init_129 : decode cX10_init 129 = .ok (.dup, 1) := by decide +kernel
theorem dX10_init_130 : decode cX10_init 130 = .ok (.invokespecial 66, 3) := by decide +kernel
theorem dX10_init_133 : decode cX10_init 133 = .ok (.putfield 67, 3) := by decide +kernel
theorem dX10_init_136 : decode cX10_init 136 = .ok (.aload_n 0, 1) := by decide +kernel
theorem dX10_init_137 : decode cX10_init 137 = .ok (.new 71, 3) := by decide +kernel
theorem dX10_init_140 : decode cX10_init 140 = .ok (.dup, 1) := by decide +kernel
theorem dX10_init_141 : decode cX10_init 141 = .ok (.invokespecial 73, 3) := by decide +kernel
theorem dX10_init_144 : decode cX10_init 144 = .ok (.putfield 74, 3) := by decide +kernel
theorem dX10_init_147 : decode cX10_init 147 = .ok (.return_, 1) := by decide +kernel
set_option maxRecDepth 100000 in
theorem cO_X11 : clOk 11 42 RX11 [.int 0, .int 0, .null, .null, .int 0, .null, .null, .null, .null, .null, .null, .int 0, .int 0, .int 0, .null, .null, .null, .null, .null, .null, .null, .long 0, .null, .int 0, .null, .long 0, .long 0, .long 0, .long 0, .int 0, .null, .int 0, .int 0, .long 0, .long 0, .long 0, .null, .null, .null, .null, .null, .int 0] := ⟨TX11, tyX11, rfl, inG_X11, tyX11_ok, fun j hj => by
  match j, hj with
  | 0, _ => rfl
  | 1, _ => rfl
  | 2, _ => rfl
  | 3, _ => rfl
  | 4, _ => rfl
  | 5, _ => rfl
  | 6, _ => rfl
  | 7, _ => rfl
  | 8, _ => rfl
  | 9, _ => rfl
  | 10, _ => rfl
  | 11, _ => rfl
  | 12, _ => rfl
  | 13, _ => rfl
  | 14, _ => rfl
  | 15, _ => rfl
  | 16, _ => rfl
  | 17, _ => rfl
  | 18, _ => rfl
  | 19, _ => rfl
  | 20, _ => rfl
  | 21, _ => rfl
  | 22, _ => rfl
  | 23, _ => rfl
  | 24, _ => rfl
  | 25, _ => rfl
  | 26, _ => rfl
  | 27, _ => rfl
  | 28, _ => rfl
  | 29, _ => rfl
  | 30, _ => rfl
  | 31, _ => rfl
  | 32, _ => rfl
  | 33, _ => rfl
  | 34, _ => rfl
  | 35, _ => rfl
  | 36, _ => rfl
  | 37, _ => rfl
  | 38, _ => rfl
  | 39, _ => rfl
  | 40, _ => rfl
  | 41, _ => rfl
  | j + 42, h => exact absurd h (by omega), gt_4 201 rfl rfl, gt_1 13 rfl rfl⟩
set_option maxRecDepth 100000 in
theorem ko_X11_init : kOk 0 mX11_init := ⟨gt_1 13 rfl rfl, gt_4 204 rfl rfl, ⟨by decide +kernel, by decide +kernel, by decide +kernel⟩, (Nat.le_of_ble_eq_true rfl), by decide +kernel⟩
set_option maxRecDepth 100000 in
theorem im_X11_init : Cond.instanceMethod yX11_init ∈ gt := gt_4 203 rfl rfl
theorem dX11_init_0 : decode cX11_init 0 = .ok (.aload_n 0, 1) := by decide +kernel
theorem dX11_init_1 : decode cX11_init 1 = .ok (.invokespecial 3, 3) := by decide +kernel
theorem dX11_init_4 : decode cX11_init 4 = .ok (.aload_n 0, 1) := by decide +kernel
theorem dX11_init_5 : decode cX11_init 5 = .ok (.bipush 14, 2) := by decide +kernel
theorem dX11_init_7 : decode cX11_init 7 = .ok (.newarray .int, 2) := by decide +kernel
theorem dX11_init_9 : decode cX11_init 9 = .ok (.putfield 9, 3) := by decide +kernel
theorem dX11_init_12 : decode cX11_init 12 = .ok (.aload_n 0, 1) := by decide +kernel
theorem dX11_init_13 : decode cX11_init 13 = .ok (.bipush 14, 2) := by decide +kernel
theorem dX11_init_15 : decode cX11_init 15 = .ok (.newarray .int, 2) := by decide +kernel
theorem dX11_init_17 : decode cX11_init 17 = .ok (.putfield 13, 3) := by decide +kernel
theorem dX11_init_20 : decode cX11_init 20 = .ok (.aload_n 0, 1) := by decide +kernel
theorem dX11_init_21 : decode cX11_init 21 = .ok (.sipush 150, 3) := by decide +kernel
theorem dX11_init_24 : decode cX11_init 24 = .ok (.newarray .int, 2) := by decide +kernel
theorem dX11_init_26 : decode cX11_init 26 = .ok (.putfield 16, 3) := by decide +kernel
theorem dX11_init_29 : decode cX11_init 29 = .ok (.aload_n 0, 1) := by decide +kernel
theorem dX11_init_30 : decode cX11_init 30 = .ok (.sipush 150, 3) := by decide +kernel
theorem dX11_init_33 : decode cX11_init 33 = .ok (.newarray .int, 2) := by decide +kernel
theorem dX11_init_35 : decode cX11_init 35 = .ok (.putfield 19, 3) := by decide +kernel
theorem dX11_init_38 : decode cX11_init 38 = .ok (.aload_n 0, 1) := by decide +kernel
theorem dX11_init_39 : decode cX11_init 39 = .ok (.sipush 150, 3) := by decide +kernel
theorem dX11_init_42 : decode cX11_init 42 = .ok (.newarray .int, 2) := by decide +kernel
theorem dX11_init_44 : decode cX11_init 44 = .ok (.putfield 22, 3) := by decide +kernel
theorem dX11_init_47 : decode cX11_init 47 = .ok (.aload_n 0, 1) := by decide +kernel
theorem dX11_init_48 : decode cX11_init 48 = .ok (.sipush 150, 3) := by decide +kernel
theorem dX11_init_51 : decode cX11_init 51 = .ok (.newarray .int, 2) := by decide +kernel
theorem dX11_init_53 : decode cX11_init 53 = .ok (.putfield 25, 3) := by decide +kernel
theorem dX11_init_56 : decode cX11_init 56 = .ok (.aload_n 0, 1) := by decide +kernel
theorem dX11_init_57 : decode cX11_init 57 = .ok (.sipush 150, 3) := by decide +kernel
theorem dX11_init_60 : decode cX11_init 60 = .ok (.newarray .int, 2) := by decide +kernel
theorem dX11_init_62 : decode cX11_init 62 = .ok (.putfield 28, 3) := by decide +kernel
theorem dX11_init_65 : decode cX11_init 65 = .ok (.aload_n 0, 1) := by decide +kernel
theorem dX11_init_66 : decode cX11_init 66 = .ok (.sipush 150, 3) := by decide +kernel
theorem dX11_init_69 : decode cX11_init 69 = .ok (.newarray .int, 2) := by decide +kernel
theorem dX11_init_71 : decode cX11_init 71 = .ok (.putfield 31, 3) := by decide +kernel
theorem dX11_init_74 : decode cX11_init 74 = .ok (.aload_n 0, 1) := by decide +kernel
theorem dX11_init_75 : decode cX11_init 75 = .ok (.iconst (-1), 1) := by decide +kernel
theorem dX11_init_76 : decode cX11_init 76 = .ok (.putfield 34, 3) := by decide +kernel
theorem dX11_init_79 : decode cX11_init 79 = .ok (.aload_n 0, 1) := by decide +kernel
theorem dX11_init_80 : decode cX11_init 80 = .ok (.iconst 2, 1) := by decide +kernel
theorem dX11_init_81 : decode cX11_init 81 = .ok (.putfield 38, 3) := by decide +kernel
theorem dX11_init_84 : decode cX11_init 84 = .ok (.aload_n 0, 1) := by decide +kernel
theorem dX11_init_85 : decode cX11_init 85 = .ok (.iconst 4, 1) := by decide +kernel
theorem dX11_init_86 : decode cX11_init 86 = .ok (.newarray .int, 2) := by decide +kernel
theorem dX11_init_88 : decode cX11_init 88 = .ok (.putfield 41, 3) := by decide +kernel
theorem dX11_init_91 : decode cX11_init 91 = .ok (.aload_n 0, 1) := by decide +kernel
theorem dX11_init_92 : decode cX11_init 92 = .ok (.sipush 600, 3) := by decide +kernel
theorem dX11_init_95 : decode cX11_init 95 = .ok (.newarray .int, 2) := by decide +kernel
theorem dX11_init_97 : decode cX11_init 97 = .ok (.putfield 44, 3) := by decide +kernel
theorem dX11_init_100 : decode cX11_init 100 = .ok (.aload_n 0, 1) := by decide +kernel
theorem dX11_init_101 : decode cX11_init 101 = .ok (.sipush 600, 3) := by decide +kernel
theorem dX11_init_104 : decode cX11_init 104 = .ok (.newarray .long, 2) := by decide +kernel
theorem dX11_init_106 : decode cX11_init 106 = .ok (.putfield 47, 3) := by decide +kernel
theorem dX11_init_109 : decode cX11_init 109 = .ok (.aload_n 0, 1) := by decide +kernel
theorem dX11_init_110 : decode cX11_init 110 = .ok (.sipush 600, 3) := by decide +kernel
theorem dX11_init_113 : decode cX11_init 113 = .ok (.newarray .int, 2) := by decide +kernel
theorem dX11_init_115 : decode cX11_init 115 = .ok (.putfield 51, 3) := by decide +kernel
theorem dX11_init_118 : decode cX11_init 118 = .ok (.aload_n 0, 1) := by decide +kernel
theorem dX11_init_119 : decode cX11_init 119 = .ok (.bipush 56, 2) := by decide +kernel
theorem dX11_init_121 : decode cX11_init 121 = .ok (.newarray .int, 2) := by decide +kernel
theorem dX11_init_123 : decode cX11_init 123 = .ok (.putfield 54, 3) := by decide +kernel
theorem dX11_init_126 : decode cX11_init 126 = .ok (.aload_n 0, 1) := by decide +kernel
theorem dX11_init_127 : decode cX11_init 127 = .ok (.bipush 56, 2) := by decide +kernel
theorem dX11_init_129 : decode cX11_init 129 = .ok (.newarray .long, 2) := by decide +kernel
theorem dX11_init_131 : decode cX11_init 131 = .ok (.putfield 57, 3) := by decide +kernel
theorem dX11_init_134 : decode cX11_init 134 = .ok (.aload_n 0, 1) := by decide +kernel
theorem dX11_init_135 : decode cX11_init 135 = .ok (.bipush 14, 2) := by decide +kernel
theorem dX11_init_137 : decode cX11_init 137 = .ok (.newarray .int, 2) := by decide +kernel
theorem dX11_init_139 : decode cX11_init 139 = .ok (.putfield 60, 3) := by decide +kernel
theorem dX11_init_142 : decode cX11_init 142 = .ok (.aload_n 0, 1) := by decide +kernel
theorem dX11_init_143 : decode cX11_init 143 = .ok (.bipush 14, 2) := by decide +kernel
theorem dX11_init_145 : decode cX11_init 145 = .ok (.newarray .long, 2) := by decide +kernel
theorem dX11_init_147 : decode cX11_init 147 = .ok (.putfield 63, 3) := by decide +kernel
theorem dX11_init_150 : decode cX11_init 150 = .ok (.aload_n 0, 1) := by decide +kernel
theorem dX11_init_151 : decode cX11_init 151 = .ok (.bipush 105, 2) := by decide +kernel
theorem dX11_init_153 : decode cX11_init 153 = .ok (.newarray .long, 2) := by decide +kernel
theorem dX11_init_155 : decode cX11_init 155 = .ok (.putfield 66, 3) := by decide +kernel
theorem dX11_init_158 : decode cX11_init 158 = .ok (.aload_n 0, 1) := by decide +kernel
theorem dX11_init_159 : decode cX11_init 159 = .ok (.bipush 60, 2) := by decide +kernel
theorem dX11_init_161 : decode cX11_init 161 = .ok (.newarray .int, 2) := by decide +kernel
theorem dX11_init_163 : decode cX11_init 163 = .ok (.putfield 69, 3) := by decide +kernel
theorem dX11_init_166 : decode cX11_init 166 = .ok (.aload_n 0, 1) := by decide +kernel
theorem dX11_init_167 : decode cX11_init 167 = .ok (.iconst 4, 1) := by decide +kernel
theorem dX11_init_168 : decode cX11_init 168 = .ok (.newarray .boolean, 2) := by decide +kernel
theorem dX11_init_170 : decode cX11_init 170 = .ok (.putfield 72, 3) := by decide +kernel
theorem dX11_init_173 : decode cX11_init 173 = .ok (.aload_n 0, 1) := by decide +kernel
theorem dX11_init_174 : decode cX11_init 174 = .ok (.iconst 4, 1) := by decide +kernel
theorem dX11_init_175 : decode cX11_init 175 = .ok (.newarray .int, 2) := by decide +kernel
theorem dX11_init_177 : decode cX11_init 177 = .ok (.putfield 76, 3) := by decide +kernel
theorem dX11_init_180 : decode cX11_init 180 = .ok (.aload_n 0, 1) := by decide +kernel
theorem dX11_init_181 : decode cX11_init 181 = .ok (.iconst 4, 1) := by decide +kernel
theorem dX11_init_182 : decode cX11_init 182 = .ok (.newarray .int, 2) := by decide +kernel
theorem dX11_init_184 : decode cX11_init 184 = .ok (.putfield 79, 3) := by decide +kernel
theorem dX11_init_187 : decode cX11_init 187 = .ok (.aload_n 0, 1) := by decide +kernel
theorem dX11_init_188 : decode cX11_init 188 = .ok (.sipush 240, 3) := by decide +kernel
theorem dX11_init_191 : decode cX11_init 191 = .ok (.newarray .int, 2) := by decide +kernel
theorem dX11_init_193 : decode cX11_init 193 = .ok (.putfield 82, 3) := by decide +kernel
theorem dX11_init_196 : decode cX11_init 196 = .ok (.aload_n 0, 1) := by decide +kernel
theorem dX11_init_197 : decode cX11_init 197 = .ok (.bipush 60, 2) := by decide +kernel
theorem dX11_init_199 : decode cX11_init 199 = .ok (.newarray .int, 2) := by decide +kernel
theorem dX11_init_201 : decode cX11_init 201 = .ok (.putfield 85, 3) := by decide +kernel
theorem dX11_init_204 : decode cX11_init 204 = .ok (.return_, 1) := by decide +kernel
set_option maxRecDepth 100000 in
theorem ml_X5_1 : Cond.methodLink RX5 1 objectInit ∈ gt := gt_1 198 rfl rfl
set_option maxRecDepth 100000 in
theorem ml_X1_3 : Cond.methodLink RX1 3 objectInit ∈ gt := gt_1 30 rfl rfl
theorem pf_X1_3 : pfOk RX1 1 3 (.array .int) := ⟨_, tyX1, rfl, tyX1_ok, nmX1, rfl, rfl, by decide +kernel⟩
theorem pf_X1_4 : pfOk RX1 1 4 (.array .int) := ⟨_, tyX1, rfl, tyX1_ok, nmX1, rfl, rfl, by decide +kernel⟩
theorem pf_X1_6 : pfOk RX1 1 6 (.array .int) := ⟨_, tyX1, rfl, tyX1_ok, nmX1, rfl, rfl, by decide +kernel⟩
theorem pf_X1_7 : pfOk RX1 1 7 (.array .int) := ⟨_, tyX1, rfl, tyX1_ok, nmX1, rfl, rfl, by decide +kernel⟩
theorem pf_X1_8 : pfOk RX1 1 8 (.array .int) := ⟨_, tyX1, rfl, tyX1_ok, nmX1, rfl, rfl, by decide +kernel⟩
theorem pf_X1_9 : pfOk RX1 1 9 (.array .int) := ⟨_, tyX1, rfl, tyX1_ok, nmX1, rfl, rfl, by decide +kernel⟩
theorem pf_X1_10 : pfOk RX1 1 10 (.array .int) := ⟨_, tyX1, rfl, tyX1_ok, nmX1, rfl, rfl, by decide +kernel⟩
theorem pf_X1_11 : pfOk RX1 1 11 (.array .int) := ⟨_, tyX1, rfl, tyX1_ok, nmX1, rfl, rfl, by decide +kernel⟩
set_option maxRecDepth 100000 in
theorem ml_X7_3 : Cond.methodLink RX7 3 objectInit ∈ gt := gt_1 100 rfl rfl
theorem pf_X7_1 : pfOk RX7 7 1 (.array .int) := ⟨_, tyX7, rfl, tyX7_ok, nmX7, rfl, rfl, by decide +kernel⟩
set_option maxRecDepth 100000 in
theorem cl_X7_15 : Cond.classLink RX7 15 "[[I" ∈ gt := gt_1 101 rfl rfl
theorem pf_X7_2 : pfOk RX7 7 2 (.array (.array .int)) := ⟨_, tyX7, rfl, tyX7_ok, nmX7, rfl, rfl, by decide +kernel⟩
theorem pf_X7_3 : pfOk RX7 7 3 (.array (.array .int)) := ⟨_, tyX7, rfl, tyX7_ok, nmX7, rfl, rfl, by decide +kernel⟩
theorem pf_X7_4 : pfOk RX7 7 4 (.array (.array .int)) := ⟨_, tyX7, rfl, tyX7_ok, nmX7, rfl, rfl, by decide +kernel⟩
theorem pf_X7_5 : pfOk RX7 7 5 (.array .long) := ⟨_, tyX7, rfl, tyX7_ok, nmX7, rfl, rfl, by decide +kernel⟩
theorem pf_X7_6 : pfOk RX7 7 6 (.array .int) := ⟨_, tyX7, rfl, tyX7_ok, nmX7, rfl, rfl, by decide +kernel⟩
theorem pf_X7_7 : pfOk RX7 7 7 (.array (.array .int)) := ⟨_, tyX7, rfl, tyX7_ok, nmX7, rfl, rfl, by decide +kernel⟩
theorem pf_X7_8 : pfOk RX7 7 8 (.array (.array .int)) := ⟨_, tyX7, rfl, tyX7_ok, nmX7, rfl, rfl, by decide +kernel⟩
theorem pf_X7_0 : pfOk RX7 7 0 (.object "SentRound$Book") := ⟨_, tyX7, rfl, tyX7_ok, nmX7, rfl, rfl, by decide +kernel⟩
set_option maxRecDepth 100000 in
theorem ml_X0_3 : Cond.methodLink RX0 3 objectInit ∈ gt := gt_1 144 rfl rfl
theorem pf_X0_2 : pfOk RX0 0 2 (.array .int) := ⟨_, tyX0, rfl, tyX0_ok, nmX0, rfl, rfl, by decide +kernel⟩
theorem pf_X0_0 : pfOk RX0 0 0 (.object "SentRound$Book") := ⟨_, tyX0, rfl, tyX0_ok, nmX0, rfl, rfl, by decide +kernel⟩
theorem pf_X0_1 : pfOk RX0 0 1 (.object "SentRound$Reduction") := ⟨_, tyX0, rfl, tyX0_ok, nmX0, rfl, rfl, by decide +kernel⟩
set_option maxRecDepth 100000 in
theorem ml_X2_3 : Cond.methodLink RX2 3 objectInit ∈ gt := gt_1 172 rfl rfl
theorem pf_X2_2 : pfOk RX2 2 2 (.array .int) := ⟨_, tyX2, rfl, tyX2_ok, nmX2, rfl, rfl, by decide +kernel⟩
theorem pf_X2_3 : pfOk RX2 2 3 (.array .int) := ⟨_, tyX2, rfl, tyX2_ok, nmX2, rfl, rfl, by decide +kernel⟩
theorem pf_X2_0 : pfOk RX2 2 0 (.object "SentRound$Book") := ⟨_, tyX2, rfl, tyX2_ok, nmX2, rfl, rfl, by decide +kernel⟩
theorem pf_X2_1 : pfOk RX2 2 1 (.object "SentRound$Reduction") := ⟨_, tyX2, rfl, tyX2_ok, nmX2, rfl, rfl, by decide +kernel⟩
set_option maxRecDepth 100000 in
theorem ml_X6_3 : Cond.methodLink RX6 3 objectInit ∈ gt := gt_1 192 rfl rfl
theorem pf_X6_2 : pfOk RX6 6 2 (.array .long) := ⟨_, tyX6, rfl, tyX6_ok, nmX6, rfl, rfl, by decide +kernel⟩
theorem pf_X6_3 : pfOk RX6 6 3 (.array .long) := ⟨_, tyX6, rfl, tyX6_ok, nmX6, rfl, rfl, by decide +kernel⟩
theorem pf_X6_4 : pfOk RX6 6 4 (.array .long) := ⟨_, tyX6, rfl, tyX6_ok, nmX6, rfl, rfl, by decide +kernel⟩
set_option maxRecDepth 100000 in
theorem cl_X6_21 : Cond.classLink RX6 21 RX5 ∈ gt := gt_1 193 rfl rfl
theorem pf_X6_6 : pfOk RX6 6 6 (.object "SentRound$Fraction") := ⟨_, tyX6, rfl, tyX6_ok, nmX6, rfl, rfl, by decide +kernel⟩
theorem pf_X6_0 : pfOk RX6 6 0 (.object "SentRound$Book") := ⟨_, tyX6, rfl, tyX6_ok, nmX6, rfl, rfl, by decide +kernel⟩
theorem pf_X6_1 : pfOk RX6 6 1 (.object "SentRound$Reduction") := ⟨_, tyX6, rfl, tyX6_ok, nmX6, rfl, rfl, by decide +kernel⟩
set_option maxRecDepth 100000 in
theorem ml_X8_3 : Cond.methodLink RX8 3 objectInit ∈ gt := gt_1 238 rfl rfl
theorem pf_X8_2 : pfOk RX8 8 2 (.array .long) := ⟨_, tyX8, rfl, tyX8_ok, nmX8, rfl, rfl, by decide +kernel⟩
theorem pf_X8_3 : pfOk RX8 8 3 (.array .long) := ⟨_, tyX8, rfl, tyX8_ok, nmX8, rfl, rfl, by decide +kernel⟩
set_option maxRecDepth 100000 in
theorem cl_X8_18 : Cond.classLink RX8 18 RX5 ∈ gt := gt_1 239 rfl rfl
theorem pf_X8_4 : pfOk RX8 8 4 (.object "SentRound$Fraction") := ⟨_, tyX8, rfl, tyX8_ok, nmX8, rfl, rfl, by decide +kernel⟩
theorem pf_X8_0 : pfOk RX8 8 0 (.object "SentRound$Book") := ⟨_, tyX8, rfl, tyX8_ok, nmX8, rfl, rfl, by decide +kernel⟩
theorem pf_X8_1 : pfOk RX8 8 1 (.object "SentRound$Reduction") := ⟨_, tyX8, rfl, tyX8_ok, nmX8, rfl, rfl, by decide +kernel⟩
set_option maxRecDepth 100000 in
theorem ml_X3_3 : Cond.methodLink RX3 3 objectInit ∈ gt := gt_2 23 rfl rfl
theorem pf_X3_2 : pfOk RX3 3 2 (.array .int) := ⟨_, tyX3, rfl, tyX3_ok, nmX3, rfl, rfl, by decide +kernel⟩
theorem pf_X3_3 : pfOk RX3 3 3 (.array .int) := ⟨_, tyX3, rfl, tyX3_ok, nmX3, rfl, rfl, by decide +kernel⟩
theorem pf_X3_0 : pfOk RX3 3 0 (.object "SentRound$Book") := ⟨_, tyX3, rfl, tyX3_ok, nmX3, rfl, rfl, by decide +kernel⟩
theorem pf_X3_1 : pfOk RX3 3 1 (.object "SentRound$Reduction") := ⟨_, tyX3, rfl, tyX3_ok, nmX3, rfl, rfl, by decide +kernel⟩
set_option maxRecDepth 100000 in
theorem ml_X4_3 : Cond.methodLink RX4 3 objectInit ∈ gt := gt_2 51 rfl rfl
theorem pf_X4_0 : pfOk RX4 4 0 (.array .int) := ⟨_, tyX4, rfl, tyX4_ok, nmX4, rfl, rfl, by decide +kernel⟩
set_option maxRecDepth 100000 in
theorem cl_X4_15 : Cond.classLink RX4 15 RX5 ∈ gt := gt_2 52 rfl rfl
theorem pf_X4_1 : pfOk RX4 4 1 (.object "SentRound$Fraction") := ⟨_, tyX4, rfl, tyX4_ok, nmX4, rfl, rfl, by decide +kernel⟩
set_option maxRecDepth 100000 in
theorem ml_X9_3 : Cond.methodLink RX9 3 objectInit ∈ gt := gt_2 76 rfl rfl
set_option maxRecDepth 100000 in
theorem cl_X9_9 : Cond.classLink RX9 9 "[[I" ∈ gt := gt_2 77 rfl rfl
theorem pf_X9_0 : pfOk RX9 9 0 (.array (.array .int)) := ⟨_, tyX9, rfl, tyX9_ok, nmX9, rfl, rfl, by decide +kernel⟩
theorem pf_X9_1 : pfOk RX9 9 1 (.array .int) := ⟨_, tyX9, rfl, tyX9_ok, nmX9, rfl, rfl, by decide +kernel⟩
theorem pf_X9_2 : pfOk RX9 9 2 (.array .int) := ⟨_, tyX9, rfl, tyX9_ok, nmX9, rfl, rfl, by decide +kernel⟩
set_option maxRecDepth 100000 in
theorem ml_X10_3 : Cond.methodLink RX10 3 objectInit ∈ gt := gt_1 22 rfl rfl
set_option maxRecDepth 100000 in
theorem cl_X10_9 : Cond.classLink RX10 9 RX1 ∈ gt := gt_1 25 rfl rfl
theorem pf_X10_0 : pfOk RX10 10 0 (.object "SentRound$Book") := ⟨_, tyX10, rfl, tyX10_ok, nmX10, rfl, rfl, by decide +kernel⟩
set_option maxRecDepth 100000 in
theorem cl_X10_18 : Cond.classLink RX10 18 RX7 ∈ gt := gt_1 95 rfl rfl
set_option maxRecDepth 100000 in
theorem ml_X10_20 : Cond.methodLink RX10 20 yX7_init ∈ gt := gt_1 97 rfl rfl
theorem pf_X10_1 : pfOk RX10 10 1 (.object "SentRound$Reduction") := ⟨_, tyX10, rfl, tyX10_ok, nmX10, rfl, rfl, by decide +kernel⟩
set_option maxRecDepth 100000 in
theorem cl_X10_27 : Cond.classLink RX10 27 RX0 ∈ gt := gt_1 139 rfl rfl
set_option maxRecDepth 100000 in
theorem ml_X10_29 : Cond.methodLink RX10 29 yX0_init ∈ gt := gt_1 141 rfl rfl
theorem pf_X10_2 : pfOk RX10 10 2 (.object "SentRound$Agreement") := ⟨_, tyX10, rfl, tyX10_ok, nmX10, rfl, rfl, by decide +kernel⟩
set_option maxRecDepth 100000 in
theorem cl_X10_36 : Cond.classLink RX10 36 RX2 ∈ gt := gt_1 167 rfl rfl
set_option maxRecDepth 100000 in
theorem ml_X10_38 : Cond.methodLink RX10 38 yX2_init ∈ gt := gt_1 169 rfl rfl
theorem pf_X10_3 : pfOk RX10 10 3 (.object "SentRound$Chains") := ⟨_, tyX10, rfl, tyX10_ok, nmX10, rfl, rfl, by decide +kernel⟩
set_option maxRecDepth 100000 in
theorem cl_X10_43 : Cond.classLink RX10 43 RX6 ∈ gt := gt_1 187 rfl rfl
set_option maxRecDepth 100000 in
theorem ml_X10_45 : Cond.methodLink RX10 45 yX6_init ∈ gt := gt_1 189 rfl rfl
theorem pf_X10_4 : pfOk RX10 10 4 (.object "SentRound$OneNumber") := ⟨_, tyX10, rfl, tyX10_ok, nmX10, rfl, rfl, by decide +kernel⟩
set_option maxRecDepth 100000 in
theorem cl_X10_50 : Cond.classLink RX10 50 RX8 ∈ gt := gt_1 233 rfl rfl
set_option maxRecDepth 100000 in
theorem ml_X10_52 : Cond.methodLink RX10 52 yX8_init ∈ gt := gt_1 235 rfl rfl
theorem pf_X10_5 : pfOk RX10 10 5 (.object "SentRound$Repeats") := ⟨_, tyX10, rfl, tyX10_ok, nmX10, rfl, rfl, by decide +kernel⟩
set_option maxRecDepth 100000 in
theorem cl_X10_57 : Cond.classLink RX10 57 RX3 ∈ gt := gt_2 18 rfl rfl
set_option maxRecDepth 100000 in
theorem ml_X10_59 : Cond.methodLink RX10 59 yX3_init ∈ gt := gt_2 20 rfl rfl
theorem pf_X10_6 : pfOk RX10 10 6 (.object "SentRound$Dealings") := ⟨_, tyX10, rfl, tyX10_ok, nmX10, rfl, rfl, by decide +kernel⟩
set_option maxRecDepth 100000 in
theorem cl_X10_64 : Cond.classLink RX10 64 RX4 ∈ gt := gt_2 46 rfl rfl
theorem pf_X10_7 : pfOk RX10 10 7 (.object "SentRound$DoubtText") := ⟨_, tyX10, rfl, tyX10_ok, nmX10, rfl, rfl, by decide +kernel⟩
set_option maxRecDepth 100000 in
theorem cl_X10_71 : Cond.classLink RX10 71 RX9 ∈ gt := gt_2 71 rfl rfl
set_option maxRecDepth 100000 in
theorem ml_X10_73 : Cond.methodLink RX10 73 yX9_init ∈ gt := gt_2 73 rfl rfl
theorem pf_X10_8 : pfOk RX10 10 8 (.object "SentRound$Sheets") := ⟨_, tyX10, rfl, tyX10_ok, nmX10, rfl, rfl, by decide +kernel⟩
set_option maxRecDepth 100000 in
theorem ml_X11_3 : Cond.methodLink RX11 3 objectInit ∈ gt := gt_4 205 rfl rfl
theorem pf_X11_2 : pfOk RX11 11 2 (.array .int) := ⟨_, tyX11, rfl, tyX11_ok, nmX11, rfl, rfl, by decide +kernel⟩
theorem pf_X11_3 : pfOk RX11 11 3 (.array .int) := ⟨_, tyX11, rfl, tyX11_ok, nmX11, rfl, rfl, by decide +kernel⟩
theorem pf_X11_5 : pfOk RX11 11 5 (.array .int) := ⟨_, tyX11, rfl, tyX11_ok, nmX11, rfl, rfl, by decide +kernel⟩
theorem pf_X11_6 : pfOk RX11 11 6 (.array .int) := ⟨_, tyX11, rfl, tyX11_ok, nmX11, rfl, rfl, by decide +kernel⟩
theorem pf_X11_7 : pfOk RX11 11 7 (.array .int) := ⟨_, tyX11, rfl, tyX11_ok, nmX11, rfl, rfl, by decide +kernel⟩
theorem pf_X11_8 : pfOk RX11 11 8 (.array .int) := ⟨_, tyX11, rfl, tyX11_ok, nmX11, rfl, rfl, by decide +kernel⟩
theorem pf_X11_9 : pfOk RX11 11 9 (.array .int) := ⟨_, tyX11, rfl, tyX11_ok, nmX11, rfl, rfl, by decide +kernel⟩
theorem pf_X11_10 : pfOk RX11 11 10 (.array .int) := ⟨_, tyX11, rfl, tyX11_ok, nmX11, rfl, rfl, by decide +kernel⟩
theorem pf_X11_14 : pfOk RX11 11 14 (.array .int) := ⟨_, tyX11, rfl, tyX11_ok, nmX11, rfl, rfl, by decide +kernel⟩
theorem pf_X11_15 : pfOk RX11 11 15 (.array .int) := ⟨_, tyX11, rfl, tyX11_ok, nmX11, rfl, rfl, by decide +kernel⟩
theorem pf_X11_16 : pfOk RX11 11 16 (.array .long) := ⟨_, tyX11, rfl, tyX11_ok, nmX11, rfl, rfl, by decide +kernel⟩
theorem pf_X11_17 : pfOk RX11 11 17 (.array .int) := ⟨_, tyX11, rfl, tyX11_ok, nmX11, rfl, rfl, by decide +kernel⟩
theorem pf_X11_18 : pfOk RX11 11 18 (.array .int) := ⟨_, tyX11, rfl, tyX11_ok, nmX11, rfl, rfl, by decide +kernel⟩
theorem pf_X11_19 : pfOk RX11 11 19 (.array .long) := ⟨_, tyX11, rfl, tyX11_ok, nmX11, rfl, rfl, by decide +kernel⟩
theorem pf_X11_20 : pfOk RX11 11 20 (.array .int) := ⟨_, tyX11, rfl, tyX11_ok, nmX11, rfl, rfl, by decide +kernel⟩
theorem pf_X11_22 : pfOk RX11 11 22 (.array .long) := ⟨_, tyX11, rfl, tyX11_ok, nmX11, rfl, rfl, by decide +kernel⟩
theorem pf_X11_24 : pfOk RX11 11 24 (.array .long) := ⟨_, tyX11, rfl, tyX11_ok, nmX11, rfl, rfl, by decide +kernel⟩
theorem pf_X11_30 : pfOk RX11 11 30 (.array .int) := ⟨_, tyX11, rfl, tyX11_ok, nmX11, rfl, rfl, by decide +kernel⟩
theorem pf_X11_36 : pfOk RX11 11 36 (.array .boolean) := ⟨_, tyX11, rfl, tyX11_ok, nmX11, rfl, rfl, by decide +kernel⟩
theorem pf_X11_37 : pfOk RX11 11 37 (.array .int) := ⟨_, tyX11, rfl, tyX11_ok, nmX11, rfl, rfl, by decide +kernel⟩
theorem pf_X11_38 : pfOk RX11 11 38 (.array .int) := ⟨_, tyX11, rfl, tyX11_ok, nmX11, rfl, rfl, by decide +kernel⟩
theorem pf_X11_39 : pfOk RX11 11 39 (.array .int) := ⟨_, tyX11, rfl, tyX11_ok, nmX11, rfl, rfl, by decide +kernel⟩
theorem pf_X11_40 : pfOk RX11 11 40 (.array .int) := ⟨_, tyX11, rfl, tyX11_ok, nmX11, rfl, rfl, by decide +kernel⟩
/-- Arrays.fill over an array of four -/
theorem nfill (E : Nv) (q0 b : Nat) (L L' : List va_E) (he : L[q0]? = some (.inl (E.2.2 0, (4, .inl fun _ => 0)))) (hL : L.set q0 (.inl (E.2.2 0, (4, .inl fun _ => -1))) = L') : NV E 0 mJ7_fill_53178 (b, L', 0, 0) 0 (lv_args 0 [.ref (b + q0), .int (-1)]) [] L 0 0 := by
  show NV E 0 mJ7_fill_53178 (b, L', 0, 0) 0 [(0, .ref (b + q0)), (1, .int (-1))] [] L 0 0
  have hq : q0 < L.length := (List.getElem?_eq_some_iff.mp he).1
  have step : ∀ (f : Nat → Int32) (i i1 : Int32), ¬ (4 ≤ i) → vp_in i 4 → i + Int32.ofInt 1 = i1 → NV E 0 mJ7_fill_53178 (b, L', 0, 0) 5 [(2, .int i1), (3, .int 4), (0, .ref (b + q0)), (1, .int (-1))] [] (L.set q0 (.inl (E.2.2 0, (4, .inl (upd f i.toNatClampNeg (-1)))))) 0 0 → NV E 0 mJ7_fill_53178 (b, L', 0, 0) 5 [(2, .int i), (3, .int 4), (0, .ref (b + q0)), (1, .int (-1))] [] (L.set q0 (.inl (E.2.2 0, (4, .inl f)))) 0 0 := by
    intro f i i1 h1 h2 h3 kk
    have he1 : (L.set q0 (.inl (E.2.2 0, (4, .inl f))))[q0]? = some (.inl (E.2.2 0, (4, .inl f))) := List.getElem?_set_self hq
    refine NV_iload_n (pc := 5) 0 dJ7_fill_53178_5 rfl ?_
    refine NV_iload_n (pc := 6) 1 dJ7_fill_53178_6 rfl ?_
    refine NV_icmp_ge (pc := 7) (tgt := 20) dJ7_fill_53178_7 (by decide) (fun hc => absurd hc h1) (fun _ => ?_)
    refine NV_aload_n (pc := 10) 2 dJ7_fill_53178_10 rfl ?_
    refine NV_iload_n (pc := 11) 0 dJ7_fill_53178_11 rfl ?_
    refine NV_iload_n (pc := 12) 3 dJ7_fill_53178_12 rfl ?_
    refine NV_iast (pc := 13) (q0 := q0) dJ7_fill_53178_13 he1 h2 rfl (List.set_set _) ?_
    refine NV_iinc (pc := 14) 0 (w := i1) dJ7_fill_53178_14 rfl h3 (by decide) rfl ?_
    exact NV_goto (pc := 17) (tgt := 5) dJ7_fill_53178_17 (by decide) kk
  refine NV_iconst (pc := 0) (v := 0) dJ7_fill_53178_0 (by decide) ?_
  refine NV_istore_n (pc := 1) (lv' := [(2, .int 0), (0, .ref (b + q0)), (1, .int (-1))]) dJ7_fill_53178_1 (by decide) rfl ?_
  refine NV_aload_n (pc := 2) 1 dJ7_fill_53178_2 rfl ?_
  refine NV_alen (pc := 3) (q0 := q0) (v := 4) dJ7_fill_53178_3 he (by decide) rfl ?_
  refine NV_istore_n (pc := 4) (lv' := [(3, .int 4), (2, .int 0), (0, .ref (b + q0)), (1, .int (-1))]) dJ7_fill_53178_4 (by decide) rfl ?_
  have e0 : L = L.set q0 (.inl (E.2.2 0, (4, .inl fun _ => 0))) := by
    apply List.ext_getElem?
    intro j
    by_cases e : q0 = j
    · subst e
      rw [List.getElem?_set_self hq, he]
    · rw [List.getElem?_set_ne e]
  have fin : NV E 0 mJ7_fill_53178 (b, L', 0, 0) 5 [(2, .int 0), (3, .int 4), (0, .ref (b + q0)), (1, .int (-1))] [] (L.set q0 (.inl (E.2.2 0, (4, .inl fun _ => 0)))) 0 0 := by
    refine step _ 0 1 (by decide) (by unfold vp_in; decide) (by decide) ?_
    refine step _ 1 2 (by decide) (by unfold vp_in; decide) (by decide) ?_
    refine step _ 2 3 (by decide) (by unfold vp_in; decide) (by decide) ?_
    refine step _ 3 4 (by decide) (by unfold vp_in; decide) (by decide) ?_
    refine NV_iload_n (pc := 5) 0 dJ7_fill_53178_5 rfl ?_
    refine NV_iload_n (pc := 6) 1 dJ7_fill_53178_6 rfl ?_
    refine NV_icmp_ge (pc := 7) (tgt := 20) dJ7_fill_53178_7 (by decide) (fun _ => ?_) (fun hc => absurd (by decide) hc)
    refine NV_same (q0 := q0) (g := fun _ => -1) (L' := L') (List.getElem?_set_self hq) (fun j hj => ?_) (by rw [List.set_set]; exact hL) ?_
    · match j, hj with
      | 0, _ => decide
      | 1, _ => decide
      | 2, _ => decide
      | 3, _ => decide
    · exact NV_ret (pc := 20) dJ7_fill_53178_20 rfl (Nat.le_refl _) (Nat.le_refl _) rfl
  rw [← e0] at fin
  exact NV_loc [1, 0, 2, 3] rfl fin
def lX5 (cA : Nat → ClassId) (b : Nat) : List va_E := [.inr (5, [.long 0, .long 1])]
set_option maxHeartbeats 4000000 in
set_option maxRecDepth 100000 in
theorem nX5 (E : Nv) (b : Nat) : NV E 0 mX5_init (b, lX5 E.2.2 b, 0, 0) 0 (lv_args 0 [.ref b]) [] [.inr (5, [.long 0, .long 0])] 0 0 := by
  show NV E 0 mX5_init (b, lX5 E.2.2 b, 0, 0) 0 [(0, .ref b)] [] [.inr (5, [.long 0, .long 0])] 0 0
  refine NV_aload_n (pc := 0) 0 dX5_init_0 rfl ?_
  refine NV_obj (pc := 1) dX5_init_1 ml_X5_1 ?_
  refine NV_aload_n (pc := 4) 0 dX5_init_4 rfl ?_
  refine NV_lconst (pc := 5) (v := 1) dX5_init_5 (by decide) ?_
  refine NV_putN (pc := 6) (q0 := 0) (v := .long 1) (L' := [.inr (5, [.long 0, .long 1])]) dX5_init_6 fl_X5_7 po_X5_1 rfl (Nat.le_of_ble_eq_true rfl) rfl rfl rfl rfl ?_
  exact NV_ret (pc := 9) dX5_init_9 rfl (Nat.le_of_ble_eq_true rfl) (Nat.le_of_ble_eq_true rfl) rfl
def lX1 (cA : Nat → ClassId) (b : Nat) : List va_E := [.inr (1, [.int 0, .int (-1), .int 0, .ref (b + 1), .ref (b + 2), .int 0, .ref (b + 3), .ref (b + 4), .ref (b + 5), .ref (b + 6), .ref (b + 7), .ref (b + 8)]), .inl (cA 0, (14, .inl fun _ => 0)), .inl (cA 0, (14, .inl fun _ => 0)), .inl (cA 0, (150, .inl fun _ => 0)), .inl (cA 0, (150, .inl fun _ => 0)), .inl (cA 0, (150, .inl fun _ => 0)), .inl (cA 0, (150, .inl fun _ => 0)), .inl (cA 0, (150, .inl fun _ => 0)), .inl (cA 0, (150, .inl fun _ => 0))]
set_option maxHeartbeats 4000000 in
set_option maxRecDepth 100000 in
theorem nX1 (E : Nv) (b : Nat) : NV E 0 mX1_init (b, lX1 E.2.2 b, 8, 928) 0 (lv_args 0 [.ref b]) [] [.inr (1, [.int 0, .int 0, .int 0, .null, .null, .int 0, .null, .null, .null, .null, .null, .null])] 0 0 := by
  show NV E 0 mX1_init (b, lX1 E.2.2 b, 8, 928) 0 [(0, .ref b)] [] [.inr (1, [.int 0, .int 0, .int 0, .null, .null, .int 0, .null, .null, .null, .null, .null, .null])] 0 0
  refine NV_aload_n (pc := 0) 0 dX1_init_0 rfl ?_
  refine NV_obj (pc := 1) dX1_init_1 ml_X1_3 ?_
  refine NV_aload_n (pc := 4) 0 dX1_init_4 rfl ?_
  refine NV_iconst (pc := 5) (v := -1) dX1_init_5 (by decide) ?_
  refine NV_putN (pc := 6) (q0 := 0) (v := .int (-1)) (L' := [.inr (1, [.int 0, .int (-1), .int 0, .null, .null, .int 0, .null, .null, .null, .null, .null, .null])]) dX1_init_6 fl_X1_9 po_X1_1 rfl (Nat.le_of_ble_eq_true rfl) rfl rfl rfl rfl ?_
  refine NV_aload_n (pc := 9) 0 dX1_init_9 rfl ?_
  refine NV_bipush (pc := 10) (v := 14) dX1_init_10 (by decide) ?_
  refine NV_newI (pc := 12) (N := 14) (a := b + 1) (L' := [.inr (1, [.int 0, .int (-1), .int 0, .null, .null, .int 0, .null, .null, .null, .null, .null, .null]), .inl (E.2.2 0, (14, .inl fun _ => 0))]) dX1_init_12 aw_I (by decide) (by decide) (by decide) (Nat.le_of_ble_eq_true rfl) (Nat.le_of_ble_eq_true rfl) rfl rfl ?_
  refine NV_putF (pc := 14) (q0 := 0) (v := .ref (b + 1)) (L' := [.inr (1, [.int 0, .int (-1), .int 0, .ref (b + 1), .null, .int 0, .null, .null, .null, .null, .null, .null]), .inl (E.2.2 0, (14, .inl fun _ => 0))]) dX1_init_14 fl_X1_15 pf_X1_3 rfl rfl (Nat.le_of_ble_eq_true rfl) rfl rfl rfl rfl ?_
  refine NV_aload_n (pc := 17) 0 dX1_init_17 rfl ?_
  refine NV_bipush (pc := 18) (v := 14) dX1_init_18 (by decide) ?_
  refine NV_newI (pc := 20) (N := 14) (a := b + 2) (L' := [.inr (1, [.int 0, .int (-1), .int 0, .ref (b + 1), .null, .int 0, .null, .null, .null, .null, .null, .null]), .inl (E.2.2 0, (14, .inl fun _ => 0)), .inl (E.2.2 0, (14, .inl fun _ => 0))]) dX1_init_20 aw_I (by decide) (by decide) (by decide) (Nat.le_of_ble_eq_true rfl) (Nat.le_of_ble_eq_true rfl) rfl rfl ?_
  refine NV_putF (pc := 22) (q0 := 0) (v := .ref (b + 2)) (L' := [.inr (1, [.int 0, .int (-1), .int 0, .ref (b + 1), .ref (b + 2), .int 0, .null, .null, .null, .null, .null, .null]), .inl (E.2.2 0, (14, .inl fun _ => 0)), .inl (E.2.2 0, (14, .inl fun _ => 0))]) dX1_init_22 fl_X1_19 pf_X1_4 rfl rfl (Nat.le_of_ble_eq_true rfl) rfl rfl rfl rfl ?_
  refine NV_aload_n (pc := 25) 0 dX1_init_25 rfl ?_
  refine NV_sipush (pc := 26) (v := 150) dX1_init_26 (by decide) ?_
  refine NV_newI (pc := 29) (N := 150) (a := b + 3) (L' := [.inr (1, [.int 0, .int (-1), .int 0, .ref (b + 1), .ref (b + 2), .int 0, .null, .null, .null, .null, .null, .null]), .inl (E.2.2 0, (14, .inl fun _ => 0)), .inl (E.2.2 0, (14, .inl fun _ => 0)), .inl (E.2.2 0, (150, .inl fun _ => 0))]) dX1_init_29 aw_I (by decide) (by decide) (by decide) (Nat.le_of_ble_eq_true rfl) (Nat.le_of_ble_eq_true rfl) rfl rfl ?_
  refine NV_putF (pc := 31) (q0 := 0) (v := .ref (b + 3)) (L' := [.inr (1, [.int 0, .int (-1), .int 0, .ref (b + 1), .ref (b + 2), .int 0, .ref (b + 3), .null, .null, .null, .null, .null]), .inl (E.2.2 0, (14, .inl fun _ => 0)), .inl (E.2.2 0, (14, .inl fun _ => 0)), .inl (E.2.2 0, (150, .inl fun _ => 0))]) dX1_init_31 fl_X1_22 pf_X1_6 rfl rfl (Nat.le_of_ble_eq_true rfl) rfl rfl rfl rfl ?_
  refine NV_aload_n (pc := 34) 0 dX1_init_34 rfl ?_
  refine NV_sipush (pc := 35) (v := 150) dX1_init_35 (by decide) ?_
  refine NV_newI (pc := 38) (N := 150) (a := b + 4) (L' := [.inr (1, [.int 0, .int (-1), .int 0, .ref (b + 1), .ref (b + 2), .int 0, .ref (b + 3), .null, .null, .null, .null, .null]), .inl (E.2.2 0, (14, .inl fun _ => 0)), .inl (E.2.2 0, (14, .inl fun _ => 0)), .inl (E.2.2 0, (150, .inl fun _ => 0)), .inl (E.2.2 0, (150, .inl fun _ => 0))]) dX1_init_38 aw_I (by decide) (by decide) (by decide) (Nat.le_of_ble_eq_true rfl) (Nat.le_of_ble_eq_true rfl) rfl rfl ?_
  refine NV_putF (pc := 40) (q0 := 0) (v := .ref (b + 4)) (L' := [.inr (1, [.int 0, .int (-1), .int 0, .ref (b + 1), .ref (b + 2), .int 0, .ref (b + 3), .ref (b + 4), .null, .null, .null, .null]), .inl (E.2.2 0, (14, .inl fun _ => 0)), .inl (E.2.2 0, (14, .inl fun _ => 0)), .inl (E.2.2 0, (150, .inl fun _ => 0)), .inl (E.2.2 0, (150, .inl fun _ => 0))]) dX1_init_40 fl_X1_25 pf_X1_7 rfl rfl (Nat.le_of_ble_eq_true rfl) rfl rfl rfl rfl ?_
  refine NV_aload_n (pc := 43) 0 dX1_init_43 rfl ?_
  refine NV_sipush (pc := 44) (v := 150) dX1_init_44 (by decide) ?_
  refine NV_newI (pc := 47) (N := 150) (a := b + 5) (L' := [.inr (1, [.int 0, .int (-1), .int 0, .ref (b + 1), .ref (b + 2), .int 0, .ref (b + 3), .ref (b + 4), .null, .null, .null, .null]), .inl (E.2.2 0, (14, .inl fun _ => 0)), .inl (E.2.2 0, (14, .inl fun _ => 0)), .inl (E.2.2 0, (150, .inl fun _ => 0)), .inl (E.2.2 0, (150, .inl fun _ => 0)), .inl (E.2.2 0, (150, .inl fun _ => 0))]) dX1_init_47 aw_I (by decide) (by decide) (by decide) (Nat.le_of_ble_eq_true rfl) (Nat.le_of_ble_eq_true rfl) rfl rfl ?_
  refine NV_putF (pc := 49) (q0 := 0) (v := .ref (b + 5)) (L' := [.inr (1, [.int 0, .int (-1), .int 0, .ref (b + 1), .ref (b + 2), .int 0, .ref (b + 3), .ref (b + 4), .ref (b + 5), .null, .null, .null]), .inl (E.2.2 0, (14, .inl fun _ => 0)), .inl (E.2.2 0, (14, .inl fun _ => 0)), .inl (E.2.2 0, (150, .inl fun _ => 0)), .inl (E.2.2 0, (150, .inl fun _ => 0)), .inl (E.2.2 0, (150, .inl fun _ => 0))]) dX1_init_49 fl_X1_28 pf_X1_8 rfl rfl (Nat.le_of_ble_eq_true rfl) rfl rfl rfl rfl ?_
  refine NV_aload_n (pc := 52) 0 dX1_init_52 rfl ?_
  refine NV_sipush (pc := 53) (v := 150) dX1_init_53 (by decide) ?_
  refine NV_newI (pc := 56) (N := 150) (a := b + 6) (L' := [.inr (1, [.int 0, .int (-1), .int 0, .ref (b + 1), .ref (b + 2), .int 0, .ref (b + 3), .ref (b + 4), .ref (b + 5), .null, .null, .null]), .inl (E.2.2 0, (14, .inl fun _ => 0)), .inl (E.2.2 0, (14, .inl fun _ => 0)), .inl (E.2.2 0, (150, .inl fun _ => 0)), .inl (E.2.2 0, (150, .inl fun _ => 0)), .inl (E.2.2 0, (150, .inl fun _ => 0)), .inl (E.2.2 0, (150, .inl fun _ => 0))]) dX1_init_56 aw_I (by decide) (by decide) (by decide) (Nat.le_of_ble_eq_true rfl) (Nat.le_of_ble_eq_true rfl) rfl rfl ?_
  refine NV_putF (pc := 58) (q0 := 0) (v := .ref (b + 6)) (L' := [.inr (1, [.int 0, .int (-1), .int 0, .ref (b + 1), .ref (b + 2), .int 0, .ref (b + 3), .ref (b + 4), .ref (b + 5), .ref (b + 6), .null, .null]), .inl (E.2.2 0, (14, .inl fun _ => 0)), .inl (E.2.2 0, (14, .inl fun _ => 0)), .inl (E.2.2 0, (150, .inl fun _ => 0)), .inl (E.2.2 0, (150, .inl fun _ => 0)), .inl (E.2.2 0, (150, .inl fun _ => 0)), .inl (E.2.2 0, (150, .inl fun _ => 0))]) dX1_init_58 fl_X1_31 pf_X1_9 rfl rfl (Nat.le_of_ble_eq_true rfl) rfl rfl rfl rfl ?_
  refine NV_aload_n (pc := 61) 0 dX1_init_61 rfl ?_
  refine NV_sipush (pc := 62) (v := 150) dX1_init_62 (by decide) ?_
  refine NV_newI (pc := 65) (N := 150) (a := b + 7) (L' := [.inr (1, [.int 0, .int (-1), .int 0, .ref (b + 1), .ref (b + 2), .int 0, .ref (b + 3), .ref (b + 4), .ref (b + 5), .ref (b + 6), .null, .null]), .inl (E.2.2 0, (14, .inl fun _ => 0)), .inl (E.2.2 0, (14, .inl fun _ => 0)), .inl (E.2.2 0, (150, .inl fun _ => 0)), .inl (E.2.2 0, (150, .inl fun _ => 0)), .inl (E.2.2 0, (150, .inl fun _ => 0)), .inl (E.2.2 0, (150, .inl fun _ => 0)), .inl (E.2.2 0, (150, .inl fun _ => 0))]) dX1_init_65 aw_I (by decide) (by decide) (by decide) (Nat.le_of_ble_eq_true rfl) (Nat.le_of_ble_eq_true rfl) rfl rfl ?_
  refine NV_putF (pc := 67) (q0 := 0) (v := .ref (b + 7)) (L' := [.inr (1, [.int 0, .int (-1), .int 0, .ref (b + 1), .ref (b + 2), .int 0, .ref (b + 3), .ref (b + 4), .ref (b + 5), .ref (b + 6), .ref (b + 7), .null]), .inl (E.2.2 0, (14, .inl fun _ => 0)), .inl (E.2.2 0, (14, .inl fun _ => 0)), .inl (E.2.2 0, (150, .inl fun _ => 0)), .inl (E.2.2 0, (150, .inl fun _ => 0)), .inl (E.2.2 0, (150, .inl fun _ => 0)), .inl (E.2.2 0, (150, .inl fun _ => 0)), .inl (E.2.2 0, (150, .inl fun _ => 0))]) dX1_init_67 fl_X1_34 pf_X1_10 rfl rfl (Nat.le_of_ble_eq_true rfl) rfl rfl rfl rfl ?_
  refine NV_aload_n (pc := 70) 0 dX1_init_70 rfl ?_
  refine NV_sipush (pc := 71) (v := 150) dX1_init_71 (by decide) ?_
  refine NV_newI (pc := 74) (N := 150) (a := b + 8) (L' := [.inr (1, [.int 0, .int (-1), .int 0, .ref (b + 1), .ref (b + 2), .int 0, .ref (b + 3), .ref (b + 4), .ref (b + 5), .ref (b + 6), .ref (b + 7), .null]), .inl (E.2.2 0, (14, .inl fun _ => 0)), .inl (E.2.2 0, (14, .inl fun _ => 0)), .inl (E.2.2 0, (150, .inl fun _ => 0)), .inl (E.2.2 0, (150, .inl fun _ => 0)), .inl (E.2.2 0, (150, .inl fun _ => 0)), .inl (E.2.2 0, (150, .inl fun _ => 0)), .inl (E.2.2 0, (150, .inl fun _ => 0)), .inl (E.2.2 0, (150, .inl fun _ => 0))]) dX1_init_74 aw_I (by decide) (by decide) (by decide) (Nat.le_of_ble_eq_true rfl) (Nat.le_of_ble_eq_true rfl) rfl rfl ?_
  refine NV_putF (pc := 76) (q0 := 0) (v := .ref (b + 8)) (L' := [.inr (1, [.int 0, .int (-1), .int 0, .ref (b + 1), .ref (b + 2), .int 0, .ref (b + 3), .ref (b + 4), .ref (b + 5), .ref (b + 6), .ref (b + 7), .ref (b + 8)]), .inl (E.2.2 0, (14, .inl fun _ => 0)), .inl (E.2.2 0, (14, .inl fun _ => 0)), .inl (E.2.2 0, (150, .inl fun _ => 0)), .inl (E.2.2 0, (150, .inl fun _ => 0)), .inl (E.2.2 0, (150, .inl fun _ => 0)), .inl (E.2.2 0, (150, .inl fun _ => 0)), .inl (E.2.2 0, (150, .inl fun _ => 0)), .inl (E.2.2 0, (150, .inl fun _ => 0))]) dX1_init_76 fl_X1_37 pf_X1_11 rfl rfl (Nat.le_of_ble_eq_true rfl) rfl rfl rfl rfl ?_
  exact NV_ret (pc := 79) dX1_init_79 rfl (Nat.le_of_ble_eq_true rfl) (Nat.le_of_ble_eq_true rfl) rfl
def lX7 (cA : Nat → ClassId) (b a1 : Nat) : List va_E := [.inr (7, [.ref (a1), .ref (b + 1), .ref (b + 2), .ref (b + 7), .ref (b + 12), .ref (b + 17), .ref (b + 18), .ref (b + 19), .ref (b + 24)]), .inl (cA 0, (4, .inl fun _ => 0)), .inl (cA 3, (4, .inr (.inr (.inr (.inr fun i => some (b + 2 + 1 + i)))))), .inl (cA 0, (8, .inl fun _ => 0)), .inl (cA 0, (8, .inl fun _ => 0)), .inl (cA 0, (8, .inl fun _ => 0)), .inl (cA 0, (8, .inl fun _ => 0)), .inl (cA 3, (4, .inr (.inr (.inr (.inr fun i => some (b + 7 + 1 + i)))))), .inl (cA 0, (8, .inl fun _ => 0)), .inl (cA 0, (8, .inl fun _ => 0)), .inl (cA 0, (8, .inl fun _ => 0)), .inl (cA 0, (8, .inl fun _ => 0)), .inl (cA 3, (4, .inr (.inr (.inr (.inr fun i => some (b + 12 + 1 + i)))))), .inl (cA 0, (8, .inl fun _ => 0)), .inl (cA 0, (8, .inl fun _ => 0)), .inl (cA 0, (8, .inl fun _ => 0)), .inl (cA 0, (8, .inl fun _ => 0)), .inl (cA 1, (14, .inr (.inl fun _ => 0))), .inl (cA 0, (150, .inl fun _ => 0)), .inl (cA 3, (4, .inr (.inr (.inr (.inr fun i => some (b + 19 + 1 + i)))))), .inl (cA 0, (14, .inl fun _ => 0)), .inl (cA 0, (14, .inl fun _ => 0)), .inl (cA 0, (14, .inl fun _ => 0)), .inl (cA 0, (14, .inl fun _ => 0)), .inl (cA 3, (4, .inr (.inr (.inr (.inr fun i => some (b + 24 + 1 + i)))))), .inl (cA 0, (14, .inl fun _ => 0)), .inl (cA 0, (14, .inl fun _ => 0)), .inl (cA 0, (14, .inl fun _ => 0)), .inl (cA 0, (14, .inl fun _ => 0))]
set_option maxHeartbeats 4000000 in
set_option maxRecDepth 100000 in
theorem nX7 (E : Nv) (b a1 : Nat) : NV E 0 mX7_init (b, lX7 E.2.2 b a1, 28, 396) 0 (lv_args 0 [.ref b, .ref a1]) [] [.inr (7, [.null, .null, .null, .null, .null, .null, .null, .null, .null])] 0 0 := by
  show NV E 0 mX7_init (b, lX7 E.2.2 b a1, 28, 396) 0 [(0, .ref b), (1, .ref a1)] [] [.inr (7, [.null, .null, .null, .null, .null, .null, .null, .null, .null])] 0 0
  refine NV_aload_n (pc := 0) 0 dX7_init_0 rfl ?_
  refine NV_obj (pc := 1) dX7_init_1 ml_X7_3 ?_
  refine NV_aload_n (pc := 4) 0 dX7_init_4 rfl ?_
  refine NV_iconst (pc := 5) (v := 4) dX7_init_5 (by decide) ?_
  refine NV_newI (pc := 6) (N := 4) (a := b + 1) (L' := [.inr (7, [.null, .null, .null, .null, .null, .null, .null, .null, .null]), .inl (E.2.2 0, (4, .inl fun _ => 0))]) dX7_init_6 aw_I (by decide) (by decide) (by decide) (Nat.le_of_ble_eq_true rfl) (Nat.le_of_ble_eq_true rfl) rfl rfl ?_
  refine NV_putF (pc := 8) (q0 := 0) (v := .ref (b + 1)) (L' := [.inr (7, [.null, .ref (b + 1), .null, .null, .null, .null, .null, .null, .null]), .inl (E.2.2 0, (4, .inl fun _ => 0))]) dX7_init_8 fl_X7_9 pf_X7_1 rfl rfl (Nat.le_of_ble_eq_true rfl) rfl rfl rfl rfl ?_
  refine NV_aload_n (pc := 11) 0 dX7_init_11 rfl ?_
  refine NV_iconst (pc := 12) (v := 4) dX7_init_12 (by decide) ?_
  refine NV_bipush (pc := 13) (v := 8) dX7_init_13 (by decide) ?_
  refine NV_rows (pc := 15) (M' := 8) (a := b + 2) (L' := [.inr (7, [.null, .ref (b + 1), .null, .null, .null, .null, .null, .null, .null]), .inl (E.2.2 0, (4, .inl fun _ => 0)), .inl (E.2.2 3, (4, .inr (.inr (.inr (.inr fun i => some (b + 2 + 1 + i)))))), .inl (E.2.2 0, (8, .inl fun _ => 0)), .inl (E.2.2 0, (8, .inl fun _ => 0)), .inl (E.2.2 0, (8, .inl fun _ => 0)), .inl (E.2.2 0, (8, .inl fun _ => 0))]) dX7_init_15 cl_X7_15 (by decide) (by decide) (by decide) (Nat.le_of_ble_eq_true rfl) (Nat.le_of_ble_eq_true rfl) rfl rfl ?_
  refine NV_putF (pc := 19) (q0 := 0) (v := .ref (b + 2)) (L' := [.inr (7, [.null, .ref (b + 1), .ref (b + 2), .null, .null, .null, .null, .null, .null]), .inl (E.2.2 0, (4, .inl fun _ => 0)), .inl (E.2.2 3, (4, .inr (.inr (.inr (.inr fun i => some (b + 2 + 1 + i)))))), .inl (E.2.2 0, (8, .inl fun _ => 0)), .inl (E.2.2 0, (8, .inl fun _ => 0)), .inl (E.2.2 0, (8, .inl fun _ => 0)), .inl (E.2.2 0, (8, .inl fun _ => 0))]) dX7_init_19 fl_X7_17 pf_X7_2 rfl rfl (Nat.le_of_ble_eq_true rfl) rfl rfl rfl rfl ?_
  refine NV_aload_n (pc := 22) 0 dX7_init_22 rfl ?_
  refine NV_iconst (pc := 23) (v := 4) dX7_init_23 (by decide) ?_
  refine NV_bipush (pc := 24) (v := 8) dX7_init_24 (by decide) ?_
  refine NV_rows (pc := 26) (M' := 8) (a := b + 7) (L' := [.inr (7, [.null, .ref (b + 1), .ref (b + 2), .null, .null, .null, .null, .null, .null]), .inl (E.2.2 0, (4, .inl fun _ => 0)), .inl (E.2.2 3, (4, .inr (.inr (.inr (.inr fun i => some (b + 2 + 1 + i)))))), .inl (E.2.2 0, (8, .inl fun _ => 0)), .inl (E.2.2 0, (8, .inl fun _ => 0)), .inl (E.2.2 0, (8, .inl fun _ => 0)), .inl (E.2.2 0, (8, .inl fun _ => 0)), .inl (E.2.2 3, (4, .inr (.inr (.inr (.inr fun i => some (b + 7 + 1 + i)))))), .inl (E.2.2 0, (8, .inl fun _ => 0)), .inl (E.2.2 0, (8, .inl fun _ => 0)), .inl (E.2.2 0, (8, .inl fun _ => 0)), .inl (E.2.2 0, (8, .inl fun _ => 0))]) dX7_init_26 cl_X7_15 (by decide) (by decide) (by decide) (Nat.le_of_ble_eq_true rfl) (Nat.le_of_ble_eq_true rfl) rfl rfl ?_
  refine NV_putF (pc := 30) (q0 := 0) (v := .ref (b + 7)) (L' := [.inr (7, [.null, .ref (b + 1), .ref (b + 2), .ref (b + 7), .null, .null, .null, .null, .null]), .inl (E.2.2 0, (4, .inl fun _ => 0)), .inl (E.2.2 3, (4, .inr (.inr (.inr (.inr fun i => some (b + 2 + 1 + i)))))), .inl (E.2.2 0, (8, .inl fun _ => 0)), .inl (E.2.2 0, (8, .inl fun _ => 0)), .inl (E.2.2 0, (8, .inl fun _ => 0)), .inl (E.2.2 0, (8, .inl fun _ => 0)), .inl (E.2.2 3, (4, .inr (.inr (.inr (.inr fun i => some (b + 7 + 1 + i)))))), .inl (E.2.2 0, (8, .inl fun _ => 0)), .inl (E.2.2 0, (8, .inl fun _ => 0)), .inl (E.2.2 0, (8, .inl fun _ => 0)), .inl (E.2.2 0, (8, .inl fun _ => 0))]) dX7_init_30 fl_X7_20 pf_X7_3 rfl rfl (Nat.le_of_ble_eq_true rfl) rfl rfl rfl rfl ?_
  refine NV_aload_n (pc := 33) 0 dX7_init_33 rfl ?_
  refine NV_iconst (pc := 34) (v := 4) dX7_init_34 (by decide) ?_
  refine NV_bipush (pc := 35) (v := 8) dX7_init_35 (by decide) ?_
  refine NV_rows (pc := 37) (M' := 8) (a := b + 12) (L' := [.inr (7, [.null, .ref (b + 1), .ref (b + 2), .ref (b + 7), .null, .null, .null, .null, .null]), .inl (E.2.2 0, (4, .inl fun _ => 0)), .inl (E.2.2 3, (4, .inr (.inr (.inr (.inr fun i => some (b + 2 + 1 + i)))))), .inl (E.2.2 0, (8, .inl fun _ => 0)), .inl (E.2.2 0, (8, .inl fun _ => 0)), .inl (E.2.2 0, (8, .inl fun _ => 0)), .inl (E.2.2 0, (8, .inl fun _ => 0)), .inl (E.2.2 3, (4, .inr (.inr (.inr (.inr fun i => some (b + 7 + 1 + i)))))), .inl (E.2.2 0, (8, .inl fun _ => 0)), .inl (E.2.2 0, (8, .inl fun _ => 0)), .inl (E.2.2 0, (8, .inl fun _ => 0)), .inl (E.2.2 0, (8, .inl fun _ => 0)), .inl (E.2.2 3, (4, .inr (.inr (.inr (.inr fun i => some (b + 12 + 1 + i)))))), .inl (E.2.2 0, (8, .inl fun _ => 0)), .inl (E.2.2 0, (8, .inl fun _ => 0)), .inl (E.2.2 0, (8, .inl fun _ => 0)), .inl (E.2.2 0, (8, .inl fun _ => 0))]) dX7_init_37 cl_X7_15 (by decide) (by decide) (by decide) (Nat.le_of_ble_eq_true rfl) (Nat.le_of_ble_eq_true rfl) rfl rfl ?_
  refine NV_putF (pc := 41) (q0 := 0) (v := .ref (b + 12)) (L' := [.inr (7, [.null, .ref (b + 1), .ref (b + 2), .ref (b + 7), .ref (b + 12), .null, .null, .null, .null]), .inl (E.2.2 0, (4, .inl fun _ => 0)), .inl (E.2.2 3, (4, .inr (.inr (.inr (.inr fun i => some (b + 2 + 1 + i)))))), .inl (E.2.2 0, (8, .inl fun _ => 0)), .inl (E.2.2 0, (8, .inl fun _ => 0)), .inl (E.2.2 0, (8, .inl fun _ => 0)), .inl (E.2.2 0, (8, .inl fun _ => 0)), .inl (E.2.2 3, (4, .inr (.inr (.inr (.inr fun i => some (b + 7 + 1 + i)))))), .inl (E.2.2 0, (8, .inl fun _ => 0)), .inl (E.2.2 0, (8, .inl fun _ => 0)), .inl (E.2.2 0, (8, .inl fun _ => 0)), .inl (E.2.2 0, (8, .inl fun _ => 0)), .inl (E.2.2 3, (4, .inr (.inr (.inr (.inr fun i => some (b + 12 + 1 + i)))))), .inl (E.2.2 0, (8, .inl fun _ => 0)), .inl (E.2.2 0, (8, .inl fun _ => 0)), .inl (E.2.2 0, (8, .inl fun _ => 0)), .inl (E.2.2 0, (8, .inl fun _ => 0))]) dX7_init_41 fl_X7_23 pf_X7_4 rfl rfl (Nat.le_of_ble_eq_true rfl) rfl rfl rfl rfl ?_
  refine NV_aload_n (pc := 44) 0 dX7_init_44 rfl ?_
  refine NV_bipush (pc := 45) (v := 14) dX7_init_45 (by decide) ?_
  refine NV_newJ (pc := 47) (N := 14) (a := b + 17) (L' := [.inr (7, [.null, .ref (b + 1), .ref (b + 2), .ref (b + 7), .ref (b + 12), .null, .null, .null, .null]), .inl (E.2.2 0, (4, .inl fun _ => 0)), .inl (E.2.2 3, (4, .inr (.inr (.inr (.inr fun i => some (b + 2 + 1 + i)))))), .inl (E.2.2 0, (8, .inl fun _ => 0)), .inl (E.2.2 0, (8, .inl fun _ => 0)), .inl (E.2.2 0, (8, .inl fun _ => 0)), .inl (E.2.2 0, (8, .inl fun _ => 0)), .inl (E.2.2 3, (4, .inr (.inr (.inr (.inr fun i => some (b + 7 + 1 + i)))))), .inl (E.2.2 0, (8, .inl fun _ => 0)), .inl (E.2.2 0, (8, .inl fun _ => 0)), .inl (E.2.2 0, (8, .inl fun _ => 0)), .inl (E.2.2 0, (8, .inl fun _ => 0)), .inl (E.2.2 3, (4, .inr (.inr (.inr (.inr fun i => some (b + 12 + 1 + i)))))), .inl (E.2.2 0, (8, .inl fun _ => 0)), .inl (E.2.2 0, (8, .inl fun _ => 0)), .inl (E.2.2 0, (8, .inl fun _ => 0)), .inl (E.2.2 0, (8, .inl fun _ => 0)), .inl (E.2.2 1, (14, .inr (.inl fun _ => 0)))]) dX7_init_47 aw_J (by decide) (by decide) (by decide) (Nat.le_of_ble_eq_true rfl) (Nat.le_of_ble_eq_true rfl) rfl rfl ?_
  refine NV_putF (pc := 49) (q0 := 0) (v := .ref (b + 17)) (L' := [.inr (7, [.null, .ref (b + 1), .ref (b + 2), .ref (b + 7), .ref (b + 12), .ref (b + 17), .null, .null, .null]), .inl (E.2.2 0, (4, .inl fun _ => 0)), .inl (E.2.2 3, (4, .inr (.inr (.inr (.inr fun i => some (b + 2 + 1 + i)))))), .inl (E.2.2 0, (8, .inl fun _ => 0)), .inl (E.2.2 0, (8, .inl fun _ => 0)), .inl (E.2.2 0, (8, .inl fun _ => 0)), .inl (E.2.2 0, (8, .inl fun _ => 0)), .inl (E.2.2 3, (4, .inr (.inr (.inr (.inr fun i => some (b + 7 + 1 + i)))))), .inl (E.2.2 0, (8, .inl fun _ => 0)), .inl (E.2.2 0, (8, .inl fun _ => 0)), .inl (E.2.2 0, (8, .inl fun _ => 0)), .inl (E.2.2 0, (8, .inl fun _ => 0)), .inl (E.2.2 3, (4, .inr (.inr (.inr (.inr fun i => some (b + 12 + 1 + i)))))), .inl (E.2.2 0, (8, .inl fun _ => 0)), .inl (E.2.2 0, (8, .inl fun _ => 0)), .inl (E.2.2 0, (8, .inl fun _ => 0)), .inl (E.2.2 0, (8, .inl fun _ => 0)), .inl (E.2.2 1, (14, .inr (.inl fun _ => 0)))]) dX7_init_49 fl_X7_26 pf_X7_5 rfl rfl (Nat.le_of_ble_eq_true rfl) rfl rfl rfl rfl ?_
  refine NV_aload_n (pc := 52) 0 dX7_init_52 rfl ?_
  refine NV_sipush (pc := 53) (v := 150) dX7_init_53 (by decide) ?_
  refine NV_newI (pc := 56) (N := 150) (a := b + 18) (L' := [.inr (7, [.null, .ref (b + 1), .ref (b + 2), .ref (b + 7), .ref (b + 12), .ref (b + 17), .null, .null, .null]), .inl (E.2.2 0, (4, .inl fun _ => 0)), .inl (E.2.2 3, (4, .inr (.inr (.inr (.inr fun i => some (b + 2 + 1 + i)))))), .inl (E.2.2 0, (8, .inl fun _ => 0)), .inl (E.2.2 0, (8, .inl fun _ => 0)), .inl (E.2.2 0, (8, .inl fun _ => 0)), .inl (E.2.2 0, (8, .inl fun _ => 0)), .inl (E.2.2 3, (4, .inr (.inr (.inr (.inr fun i => some (b + 7 + 1 + i)))))), .inl (E.2.2 0, (8, .inl fun _ => 0)), .inl (E.2.2 0, (8, .inl fun _ => 0)), .inl (E.2.2 0, (8, .inl fun _ => 0)), .inl (E.2.2 0, (8, .inl fun _ => 0)), .inl (E.2.2 3, (4, .inr (.inr (.inr (.inr fun i => some (b + 12 + 1 + i)))))), .inl (E.2.2 0, (8, .inl fun _ => 0)), .inl (E.2.2 0, (8, .inl fun _ => 0)), .inl (E.2.2 0, (8, .inl fun _ => 0)), .inl (E.2.2 0, (8, .inl fun _ => 0)), .inl (E.2.2 1, (14, .inr (.inl fun _ => 0))), .inl (E.2.2 0, (150, .inl fun _ => 0))]) dX7_init_56 aw_I (by decide) (by decide) (by decide) (Nat.le_of_ble_eq_true rfl) (Nat.le_of_ble_eq_true rfl) rfl rfl ?_
  refine NV_putF (pc := 58) (q0 := 0) (v := .ref (b + 18)) (L' := [.inr (7, [.null, .ref (b + 1), .ref (b + 2), .ref (b + 7), .ref (b + 12), .ref (b + 17), .ref (b + 18), .null, .null]), .inl (E.2.2 0, (4, .inl fun _ => 0)), .inl (E.2.2 3, (4, .inr (.inr (.inr (.inr fun i => some (b + 2 + 1 + i)))))), .inl (E.2.2 0, (8, .inl fun _ => 0)), .inl (E.2.2 0, (8, .inl fun _ => 0)), .inl (E.2.2 0, (8, .inl fun _ => 0)), .inl (E.2.2 0, (8, .inl fun _ => 0)), .inl (E.2.2 3, (4, .inr (.inr (.inr (.inr fun i => some (b + 7 + 1 + i)))))), .inl (E.2.2 0, (8, .inl fun _ => 0)), .inl (E.2.2 0, (8, .inl fun _ => 0)), .inl (E.2.2 0, (8, .inl fun _ => 0)), .inl (E.2.2 0, (8, .inl fun _ => 0)), .inl (E.2.2 3, (4, .inr (.inr (.inr (.inr fun i => some (b + 12 + 1 + i)))))), .inl (E.2.2 0, (8, .inl fun _ => 0)), .inl (E.2.2 0, (8, .inl fun _ => 0)), .inl (E.2.2 0, (8, .inl fun _ => 0)), .inl (E.2.2 0, (8, .inl fun _ => 0)), .inl (E.2.2 1, (14, .inr (.inl fun _ => 0))), .inl (E.2.2 0, (150, .inl fun _ => 0))]) dX7_init_58 fl_X7_30 pf_X7_6 rfl rfl (Nat.le_of_ble_eq_true rfl) rfl rfl rfl rfl ?_
  refine NV_aload_n (pc := 61) 0 dX7_init_61 rfl ?_
  refine NV_iconst (pc := 62) (v := 4) dX7_init_62 (by decide) ?_
  refine NV_bipush (pc := 63) (v := 14) dX7_init_63 (by decide) ?_
  refine NV_rows (pc := 65) (M' := 14) (a := b + 19) (L' := [.inr (7, [.null, .ref (b + 1), .ref (b + 2), .ref (b + 7), .ref (b + 12), .ref (b + 17), .ref (b + 18), .null, .null]), .inl (E.2.2 0, (4, .inl fun _ => 0)), .inl (E.2.2 3, (4, .inr (.inr (.inr (.inr fun i => some (b + 2 + 1 + i)))))), .inl (E.2.2 0, (8, .inl fun _ => 0)), .inl (E.2.2 0, (8, .inl fun _ => 0)), .inl (E.2.2 0, (8, .inl fun _ => 0)), .inl (E.2.2 0, (8, .inl fun _ => 0)), .inl (E.2.2 3, (4, .inr (.inr (.inr (.inr fun i => some (b + 7 + 1 + i)))))), .inl (E.2.2 0, (8, .inl fun _ => 0)), .inl (E.2.2 0, (8, .inl fun _ => 0)), .inl (E.2.2 0, (8, .inl fun _ => 0)), .inl (E.2.2 0, (8, .inl fun _ => 0)), .inl (E.2.2 3, (4, .inr (.inr (.inr (.inr fun i => some (b + 12 + 1 + i)))))), .inl (E.2.2 0, (8, .inl fun _ => 0)), .inl (E.2.2 0, (8, .inl fun _ => 0)), .inl (E.2.2 0, (8, .inl fun _ => 0)), .inl (E.2.2 0, (8, .inl fun _ => 0)), .inl (E.2.2 1, (14, .inr (.inl fun _ => 0))), .inl (E.2.2 0, (150, .inl fun _ => 0)), .inl (E.2.2 3, (4, .inr (.inr (.inr (.inr fun i => some (b + 19 + 1 + i)))))), .inl (E.2.2 0, (14, .inl fun _ => 0)), .inl (E.2.2 0, (14, .inl fun _ => 0)), .inl (E.2.2 0, (14, .inl fun _ => 0)), .inl (E.2.2 0, (14, .inl fun _ => 0))]) dX7_init_65 cl_X7_15 (by decide) (by decide) (by decide) (Nat.le_of_ble_eq_true rfl) (Nat.le_of_ble_eq_true rfl) rfl rfl ?_
  refine NV_putF (pc := 69) (q0 := 0) (v := .ref (b + 19)) (L' := [.inr (7, [.null, .ref (b + 1), .ref (b + 2), .ref (b + 7), .ref (b + 12), .ref (b + 17), .ref (b + 18), .ref (b + 19), .null]), .inl (E.2.2 0, (4, .inl fun _ => 0)), .inl (E.2.2 3, (4, .inr (.inr (.inr (.inr fun i => some (b + 2 + 1 + i)))))), .inl (E.2.2 0, (8, .inl fun _ => 0)), .inl (E.2.2 0, (8, .inl fun _ => 0)), .inl (E.2.2 0, (8, .inl fun _ => 0)), .inl (E.2.2 0, (8, .inl fun _ => 0)), .inl (E.2.2 3, (4, .inr (.inr (.inr (.inr fun i => some (b + 7 + 1 + i)))))), .inl (E.2.2 0, (8, .inl fun _ => 0)), .inl (E.2.2 0, (8, .inl fun _ => 0)), .inl (E.2.2 0, (8, .inl fun _ => 0)), .inl (E.2.2 0, (8, .inl fun _ => 0)), .inl (E.2.2 3, (4, .inr (.inr (.inr (.inr fun i => some (b + 12 + 1 + i)))))), .inl (E.2.2 0, (8, .inl fun _ => 0)), .inl (E.2.2 0, (8, .inl fun _ => 0)), .inl (E.2.2 0, (8, .inl fun _ => 0)), .inl (E.2.2 0, (8, .inl fun _ => 0)), .inl (E.2.2 1, (14, .inr (.inl fun _ => 0))), .inl (E.2.2 0, (150, .inl fun _ => 0)), .inl (E.2.2 3, (4, .inr (.inr (.inr (.inr fun i => some (b + 19 + 1 + i)))))), .inl (E.2.2 0, (14, .inl fun _ => 0)), .inl (E.2.2 0, (14, .inl fun _ => 0)), .inl (E.2.2 0, (14, .inl fun _ => 0)), .inl (E.2.2 0, (14, .inl fun _ => 0))]) dX7_init_69 fl_X7_33 pf_X7_7 rfl rfl (Nat.le_of_ble_eq_true rfl) rfl rfl rfl rfl ?_
  refine NV_aload_n (pc := 72) 0 dX7_init_72 rfl ?_
  refine NV_iconst (pc := 73) (v := 4) dX7_init_73 (by decide) ?_
  refine NV_bipush (pc := 74) (v := 14) dX7_init_74 (by decide) ?_
  refine NV_rows (pc := 76) (M' := 14) (a := b + 24) (L' := [.inr (7, [.null, .ref (b + 1), .ref (b + 2), .ref (b + 7), .ref (b + 12), .ref (b + 17), .ref (b + 18), .ref (b + 19), .null]), .inl (E.2.2 0, (4, .inl fun _ => 0)), .inl (E.2.2 3, (4, .inr (.inr (.inr (.inr fun i => some (b + 2 + 1 + i)))))), .inl (E.2.2 0, (8, .inl fun _ => 0)), .inl (E.2.2 0, (8, .inl fun _ => 0)), .inl (E.2.2 0, (8, .inl fun _ => 0)), .inl (E.2.2 0, (8, .inl fun _ => 0)), .inl (E.2.2 3, (4, .inr (.inr (.inr (.inr fun i => some (b + 7 + 1 + i)))))), .inl (E.2.2 0, (8, .inl fun _ => 0)), .inl (E.2.2 0, (8, .inl fun _ => 0)), .inl (E.2.2 0, (8, .inl fun _ => 0)), .inl (E.2.2 0, (8, .inl fun _ => 0)), .inl (E.2.2 3, (4, .inr (.inr (.inr (.inr fun i => some (b + 12 + 1 + i)))))), .inl (E.2.2 0, (8, .inl fun _ => 0)), .inl (E.2.2 0, (8, .inl fun _ => 0)), .inl (E.2.2 0, (8, .inl fun _ => 0)), .inl (E.2.2 0, (8, .inl fun _ => 0)), .inl (E.2.2 1, (14, .inr (.inl fun _ => 0))), .inl (E.2.2 0, (150, .inl fun _ => 0)), .inl (E.2.2 3, (4, .inr (.inr (.inr (.inr fun i => some (b + 19 + 1 + i)))))), .inl (E.2.2 0, (14, .inl fun _ => 0)), .inl (E.2.2 0, (14, .inl fun _ => 0)), .inl (E.2.2 0, (14, .inl fun _ => 0)), .inl (E.2.2 0, (14, .inl fun _ => 0)), .inl (E.2.2 3, (4, .inr (.inr (.inr (.inr fun i => some (b + 24 + 1 + i)))))), .inl (E.2.2 0, (14, .inl fun _ => 0)), .inl (E.2.2 0, (14, .inl fun _ => 0)), .inl (E.2.2 0, (14, .inl fun _ => 0)), .inl (E.2.2 0, (14, .inl fun _ => 0))]) dX7_init_76 cl_X7_15 (by decide) (by decide) (by decide) (Nat.le_of_ble_eq_true rfl) (Nat.le_of_ble_eq_true rfl) rfl rfl ?_
  refine NV_putF (pc := 80) (q0 := 0) (v := .ref (b + 24)) (L' := [.inr (7, [.null, .ref (b + 1), .ref (b + 2), .ref (b + 7), .ref (b + 12), .ref (b + 17), .ref (b + 18), .ref (b + 19), .ref (b + 24)]), .inl (E.2.2 0, (4, .inl fun _ => 0)), .inl (E.2.2 3, (4, .inr (.inr (.inr (.inr fun i => some (b + 2 + 1 + i)))))), .inl (E.2.2 0, (8, .inl fun _ => 0)), .inl (E.2.2 0, (8, .inl fun _ => 0)), .inl (E.2.2 0, (8, .inl fun _ => 0)), .inl (E.2.2 0, (8, .inl fun _ => 0)), .inl (E.2.2 3, (4, .inr (.inr (.inr (.inr fun i => some (b + 7 + 1 + i)))))), .inl (E.2.2 0, (8, .inl fun _ => 0)), .inl (E.2.2 0, (8, .inl fun _ => 0)), .inl (E.2.2 0, (8, .inl fun _ => 0)), .inl (E.2.2 0, (8, .inl fun _ => 0)), .inl (E.2.2 3, (4, .inr (.inr (.inr (.inr fun i => some (b + 12 + 1 + i)))))), .inl (E.2.2 0, (8, .inl fun _ => 0)), .inl (E.2.2 0, (8, .inl fun _ => 0)), .inl (E.2.2 0, (8, .inl fun _ => 0)), .inl (E.2.2 0, (8, .inl fun _ => 0)), .inl (E.2.2 1, (14, .inr (.inl fun _ => 0))), .inl (E.2.2 0, (150, .inl fun _ => 0)), .inl (E.2.2 3, (4, .inr (.inr (.inr (.inr fun i => some (b + 19 + 1 + i)))))), .inl (E.2.2 0, (14, .inl fun _ => 0)), .inl (E.2.2 0, (14, .inl fun _ => 0)), .inl (E.2.2 0, (14, .inl fun _ => 0)), .inl (E.2.2 0, (14, .inl fun _ => 0)), .inl (E.2.2 3, (4, .inr (.inr (.inr (.inr fun i => some (b + 24 + 1 + i)))))), .inl (E.2.2 0, (14, .inl fun _ => 0)), .inl (E.2.2 0, (14, .inl fun _ => 0)), .inl (E.2.2 0, (14, .inl fun _ => 0)), .inl (E.2.2 0, (14, .inl fun _ => 0))]) dX7_init_80 fl_X7_36 pf_X7_8 rfl rfl (Nat.le_of_ble_eq_true rfl) rfl rfl rfl rfl ?_
  refine NV_aload_n (pc := 83) 0 dX7_init_83 rfl ?_
  refine NV_aload_n (pc := 84) 1 dX7_init_84 rfl ?_
  refine NV_putF (pc := 85) (q0 := 0) (v := .ref (a1)) (L' := [.inr (7, [.ref (a1), .ref (b + 1), .ref (b + 2), .ref (b + 7), .ref (b + 12), .ref (b + 17), .ref (b + 18), .ref (b + 19), .ref (b + 24)]), .inl (E.2.2 0, (4, .inl fun _ => 0)), .inl (E.2.2 3, (4, .inr (.inr (.inr (.inr fun i => some (b + 2 + 1 + i)))))), .inl (E.2.2 0, (8, .inl fun _ => 0)), .inl (E.2.2 0, (8, .inl fun _ => 0)), .inl (E.2.2 0, (8, .inl fun _ => 0)), .inl (E.2.2 0, (8, .inl fun _ => 0)), .inl (E.2.2 3, (4, .inr (.inr (.inr (.inr fun i => some (b + 7 + 1 + i)))))), .inl (E.2.2 0, (8, .inl fun _ => 0)), .inl (E.2.2 0, (8, .inl fun _ => 0)), .inl (E.2.2 0, (8, .inl fun _ => 0)), .inl (E.2.2 0, (8, .inl fun _ => 0)), .inl (E.2.2 3, (4, .inr (.inr (.inr (.inr fun i => some (b + 12 + 1 + i)))))), .inl (E.2.2 0, (8, .inl fun _ => 0)), .inl (E.2.2 0, (8, .inl fun _ => 0)), .inl (E.2.2 0, (8, .inl fun _ => 0)), .inl (E.2.2 0, (8, .inl fun _ => 0)), .inl (E.2.2 1, (14, .inr (.inl fun _ => 0))), .inl (E.2.2 0, (150, .inl fun _ => 0)), .inl (E.2.2 3, (4, .inr (.inr (.inr (.inr fun i => some (b + 19 + 1 + i)))))), .inl (E.2.2 0, (14, .inl fun _ => 0)), .inl (E.2.2 0, (14, .inl fun _ => 0)), .inl (E.2.2 0, (14, .inl fun _ => 0)), .inl (E.2.2 0, (14, .inl fun _ => 0)), .inl (E.2.2 3, (4, .inr (.inr (.inr (.inr fun i => some (b + 24 + 1 + i)))))), .inl (E.2.2 0, (14, .inl fun _ => 0)), .inl (E.2.2 0, (14, .inl fun _ => 0)), .inl (E.2.2 0, (14, .inl fun _ => 0)), .inl (E.2.2 0, (14, .inl fun _ => 0))]) dX7_init_85 fl_X7_39 pf_X7_0 rfl rfl (Nat.le_of_ble_eq_true rfl) rfl rfl rfl rfl ?_
  exact NV_ret (pc := 88) dX7_init_88 rfl (Nat.le_of_ble_eq_true rfl) (Nat.le_of_ble_eq_true rfl) rfl
def lX0 (cA : Nat → ClassId) (b a1 a2 : Nat) : List va_E := [.inr (0, [.ref (a1), .ref (a2), .ref (b + 1), .int 2, .int 0, .int 0]), .inl (cA 0, (14, .inl fun _ => 0))]
set_option maxHeartbeats 4000000 in
set_option maxRecDepth 100000 in
theorem nX0 (E : Nv) (b a1 a2 : Nat) : NV E 0 mX0_init (b, lX0 E.2.2 b a1 a2, 1, 14) 0 (lv_args 0 [.ref b, .ref a1, .ref a2]) [] [.inr (0, [.null, .null, .null, .int 0, .int 0, .int 0])] 0 0 := by
  show NV E 0 mX0_init (b, lX0 E.2.2 b a1 a2, 1, 14) 0 [(0, .ref b), (1, .ref a1), (2, .ref a2)] [] [.inr (0, [.null, .null, .null, .int 0, .int 0, .int 0])] 0 0
  refine NV_aload_n (pc := 0) 0 dX0_init_0 rfl ?_
  refine NV_obj (pc := 1) dX0_init_1 ml_X0_3 ?_
  refine NV_aload_n (pc := 4) 0 dX0_init_4 rfl ?_
  refine NV_bipush (pc := 5) (v := 14) dX0_init_5 (by decide) ?_
  refine NV_newI (pc := 7) (N := 14) (a := b + 1) (L' := [.inr (0, [.null, .null, .null, .int 0, .int 0, .int 0]), .inl (E.2.2 0, (14, .inl fun _ => 0))]) dX0_init_7 aw_I (by decide) (by decide) (by decide) (Nat.le_of_ble_eq_true rfl) (Nat.le_of_ble_eq_true rfl) rfl rfl ?_
  refine NV_putF (pc := 9) (q0 := 0) (v := .ref (b + 1)) (L' := [.inr (0, [.null, .null, .ref (b + 1), .int 0, .int 0, .int 0]), .inl (E.2.2 0, (14, .inl fun _ => 0))]) dX0_init_9 fl_X0_9 pf_X0_2 rfl rfl (Nat.le_of_ble_eq_true rfl) rfl rfl rfl rfl ?_
  refine NV_aload_n (pc := 12) 0 dX0_init_12 rfl ?_
  refine NV_iconst (pc := 13) (v := 2) dX0_init_13 (by decide) ?_
  refine NV_putN (pc := 14) (q0 := 0) (v := .int 2) (L' := [.inr (0, [.null, .null, .ref (b + 1), .int 2, .int 0, .int 0]), .inl (E.2.2 0, (14, .inl fun _ => 0))]) dX0_init_14 fl_X0_15 po_X0_3 rfl (Nat.le_of_ble_eq_true rfl) rfl rfl rfl rfl ?_
  refine NV_aload_n (pc := 17) 0 dX0_init_17 rfl ?_
  refine NV_aload_n (pc := 18) 1 dX0_init_18 rfl ?_
  refine NV_putF (pc := 19) (q0 := 0) (v := .ref (a1)) (L' := [.inr (0, [.ref (a1), .null, .ref (b + 1), .int 2, .int 0, .int 0]), .inl (E.2.2 0, (14, .inl fun _ => 0))]) dX0_init_19 fl_X0_19 pf_X0_0 rfl rfl (Nat.le_of_ble_eq_true rfl) rfl rfl rfl rfl ?_
  refine NV_aload_n (pc := 22) 0 dX0_init_22 rfl ?_
  refine NV_aload_n (pc := 23) 2 dX0_init_23 rfl ?_
  refine NV_putF (pc := 24) (q0 := 0) (v := .ref (a2)) (L' := [.inr (0, [.ref (a1), .ref (a2), .ref (b + 1), .int 2, .int 0, .int 0]), .inl (E.2.2 0, (14, .inl fun _ => 0))]) dX0_init_24 fl_X0_23 pf_X0_1 rfl rfl (Nat.le_of_ble_eq_true rfl) rfl rfl rfl rfl ?_
  exact NV_ret (pc := 27) dX0_init_27 rfl (Nat.le_of_ble_eq_true rfl) (Nat.le_of_ble_eq_true rfl) rfl
def lX2 (cA : Nat → ClassId) (b a1 a2 : Nat) : List va_E := [.inr (2, [.ref (a1), .ref (a2), .ref (b + 1), .ref (b + 2)]), .inl (cA 0, (14, .inl fun _ => 0)), .inl (cA 0, (14, .inl fun _ => 0))]
set_option maxHeartbeats 4000000 in
set_option maxRecDepth 100000 in
theorem nX2 (E : Nv) (b a1 a2 : Nat) : NV E 0 mX2_init (b, lX2 E.2.2 b a1 a2, 2, 28) 0 (lv_args 0 [.ref b, .ref a1, .ref a2]) [] [.inr (2, [.null, .null, .null, .null])] 0 0 := by
  show NV E 0 mX2_init (b, lX2 E.2.2 b a1 a2, 2, 28) 0 [(0, .ref b), (1, .ref a1), (2, .ref a2)] [] [.inr (2, [.null, .null, .null, .null])] 0 0
  refine NV_aload_n (pc := 0) 0 dX2_init_0 rfl ?_
  refine NV_obj (pc := 1) dX2_init_1 ml_X2_3 ?_
  refine NV_aload_n (pc := 4) 0 dX2_init_4 rfl ?_
  refine NV_bipush (pc := 5) (v := 14) dX2_init_5 (by decide) ?_
  refine NV_newI (pc := 7) (N := 14) (a := b + 1) (L' := [.inr (2, [.null, .null, .null, .null]), .inl (E.2.2 0, (14, .inl fun _ => 0))]) dX2_init_7 aw_I (by decide) (by decide) (by decide) (Nat.le_of_ble_eq_true rfl) (Nat.le_of_ble_eq_true rfl) rfl rfl ?_
  refine NV_putF (pc := 9) (q0 := 0) (v := .ref (b + 1)) (L' := [.inr (2, [.null, .null, .ref (b + 1), .null]), .inl (E.2.2 0, (14, .inl fun _ => 0))]) dX2_init_9 fl_X2_9 pf_X2_2 rfl rfl (Nat.le_of_ble_eq_true rfl) rfl rfl rfl rfl ?_
  refine NV_aload_n (pc := 12) 0 dX2_init_12 rfl ?_
  refine NV_bipush (pc := 13) (v := 14) dX2_init_13 (by decide) ?_
  refine NV_newI (pc := 15) (N := 14) (a := b + 2) (L' := [.inr (2, [.null, .null, .ref (b + 1), .null]), .inl (E.2.2 0, (14, .inl fun _ => 0)), .inl (E.2.2 0, (14, .inl fun _ => 0))]) dX2_init_15 aw_I (by decide) (by decide) (by decide) (Nat.le_of_ble_eq_true rfl) (Nat.le_of_ble_eq_true rfl) rfl rfl ?_
  refine NV_putF (pc := 17) (q0 := 0) (v := .ref (b + 2)) (L' := [.inr (2, [.null, .null, .ref (b + 1), .ref (b + 2)]), .inl (E.2.2 0, (14, .inl fun _ => 0)), .inl (E.2.2 0, (14, .inl fun _ => 0))]) dX2_init_17 fl_X2_15 pf_X2_3 rfl rfl (Nat.le_of_ble_eq_true rfl) rfl rfl rfl rfl ?_
  refine NV_aload_n (pc := 20) 0 dX2_init_20 rfl ?_
  refine NV_aload_n (pc := 21) 1 dX2_init_21 rfl ?_
  refine NV_putF (pc := 22) (q0 := 0) (v := .ref (a1)) (L' := [.inr (2, [.ref (a1), .null, .ref (b + 1), .ref (b + 2)]), .inl (E.2.2 0, (14, .inl fun _ => 0)), .inl (E.2.2 0, (14, .inl fun _ => 0))]) dX2_init_22 fl_X2_18 pf_X2_0 rfl rfl (Nat.le_of_ble_eq_true rfl) rfl rfl rfl rfl ?_
  refine NV_aload_n (pc := 25) 0 dX2_init_25 rfl ?_
  refine NV_aload_n (pc := 26) 2 dX2_init_26 rfl ?_
  refine NV_putF (pc := 27) (q0 := 0) (v := .ref (a2)) (L' := [.inr (2, [.ref (a1), .ref (a2), .ref (b + 1), .ref (b + 2)]), .inl (E.2.2 0, (14, .inl fun _ => 0)), .inl (E.2.2 0, (14, .inl fun _ => 0))]) dX2_init_27 fl_X2_22 pf_X2_1 rfl rfl (Nat.le_of_ble_eq_true rfl) rfl rfl rfl rfl ?_
  exact NV_ret (pc := 30) dX2_init_30 rfl (Nat.le_of_ble_eq_true rfl) (Nat.le_of_ble_eq_true rfl) rfl
def lX6 (cA : Nat → ClassId) (b a1 a2 : Nat) : List va_E := [.inr (6, [.ref (a1), .ref (a2), .ref (b + 1), .ref (b + 2), .ref (b + 3), .int 0, .ref (b + 4)]), .inl (cA 1, (14, .inr (.inl fun _ => 0))), .inl (cA 1, (14, .inr (.inl fun _ => 0))), .inl (cA 1, (105, .inr (.inl fun _ => 0))), .inr (5, [.long 0, .long 1])]
set_option maxHeartbeats 4000000 in
set_option maxRecDepth 100000 in
theorem nX6 (E : Nv) (b a1 a2 : Nat) : NV E 1 mX6_init (b, lX6 E.2.2 b a1 a2, 4, 135) 0 (lv_args 0 [.ref b, .ref a1, .ref a2]) [] [.inr (6, [.null, .null, .null, .null, .null, .int 0, .null])] 0 0 := by
  show NV E 1 mX6_init (b, lX6 E.2.2 b a1 a2, 4, 135) 0 [(0, .ref b), (1, .ref a1), (2, .ref a2)] [] [.inr (6, [.null, .null, .null, .null, .null, .int 0, .null])] 0 0
  refine NV_aload_n (pc := 0) 0 dX6_init_0 rfl ?_
  refine NV_obj (pc := 1) dX6_init_1 ml_X6_3 ?_
  refine NV_aload_n (pc := 4) 0 dX6_init_4 rfl ?_
  refine NV_bipush (pc := 5) (v := 14) dX6_init_5 (by decide) ?_
  refine NV_newJ (pc := 7) (N := 14) (a := b + 1) (L' := [.inr (6, [.null, .null, .null, .null, .null, .int 0, .null]), .inl (E.2.2 1, (14, .inr (.inl fun _ => 0)))]) dX6_init_7 aw_J (by decide) (by decide) (by decide) (Nat.le_of_ble_eq_true rfl) (Nat.le_of_ble_eq_true rfl) rfl rfl ?_
  refine NV_putF (pc := 9) (q0 := 0) (v := .ref (b + 1)) (L' := [.inr (6, [.null, .null, .ref (b + 1), .null, .null, .int 0, .null]), .inl (E.2.2 1, (14, .inr (.inl fun _ => 0)))]) dX6_init_9 fl_X6_9 pf_X6_2 rfl rfl (Nat.le_of_ble_eq_true rfl) rfl rfl rfl rfl ?_
  refine NV_aload_n (pc := 12) 0 dX6_init_12 rfl ?_
  refine NV_bipush (pc := 13) (v := 14) dX6_init_13 (by decide) ?_
  refine NV_newJ (pc := 15) (N := 14) (a := b + 2) (L' := [.inr (6, [.null, .null, .ref (b + 1), .null, .null, .int 0, .null]), .inl (E.2.2 1, (14, .inr (.inl fun _ => 0))), .inl (E.2.2 1, (14, .inr (.inl fun _ => 0)))]) dX6_init_15 aw_J (by decide) (by decide) (by decide) (Nat.le_of_ble_eq_true rfl) (Nat.le_of_ble_eq_true rfl) rfl rfl ?_
  refine NV_putF (pc := 17) (q0 := 0) (v := .ref (b + 2)) (L' := [.inr (6, [.null, .null, .ref (b + 1), .ref (b + 2), .null, .int 0, .null]), .inl (E.2.2 1, (14, .inr (.inl fun _ => 0))), .inl (E.2.2 1, (14, .inr (.inl fun _ => 0)))]) dX6_init_17 fl_X6_15 pf_X6_3 rfl rfl (Nat.le_of_ble_eq_true rfl) rfl rfl rfl rfl ?_
  refine NV_aload_n (pc := 20) 0 dX6_init_20 rfl ?_
  refine NV_bipush (pc := 21) (v := 105) dX6_init_21 (by decide) ?_
  refine NV_newJ (pc := 23) (N := 105) (a := b + 3) (L' := [.inr (6, [.null, .null, .ref (b + 1), .ref (b + 2), .null, .int 0, .null]), .inl (E.2.2 1, (14, .inr (.inl fun _ => 0))), .inl (E.2.2 1, (14, .inr (.inl fun _ => 0))), .inl (E.2.2 1, (105, .inr (.inl fun _ => 0)))]) dX6_init_23 aw_J (by decide) (by decide) (by decide) (Nat.le_of_ble_eq_true rfl) (Nat.le_of_ble_eq_true rfl) rfl rfl ?_
  refine NV_putF (pc := 25) (q0 := 0) (v := .ref (b + 3)) (L' := [.inr (6, [.null, .null, .ref (b + 1), .ref (b + 2), .ref (b + 3), .int 0, .null]), .inl (E.2.2 1, (14, .inr (.inl fun _ => 0))), .inl (E.2.2 1, (14, .inr (.inl fun _ => 0))), .inl (E.2.2 1, (105, .inr (.inl fun _ => 0)))]) dX6_init_25 fl_X6_18 pf_X6_4 rfl rfl (Nat.le_of_ble_eq_true rfl) rfl rfl rfl rfl ?_
  refine NV_aload_n (pc := 28) 0 dX6_init_28 rfl ?_
  refine NV_new (pc := 29) (a := b + 4) (L' := [.inr (6, [.null, .null, .ref (b + 1), .ref (b + 2), .ref (b + 3), .int 0, .null]), .inl (E.2.2 1, (14, .inr (.inl fun _ => 0))), .inl (E.2.2 1, (14, .inr (.inl fun _ => 0))), .inl (E.2.2 1, (105, .inr (.inl fun _ => 0))), .inr (5, [.long 0, .long 0])]) dX6_init_29 cl_X6_21 cO_X5 (Nat.le_of_ble_eq_true rfl) (Nat.le_of_ble_eq_true rfl) rfl rfl ?_
  refine NV_dup (pc := 32) dX6_init_32 rfl ?_
  refine NV_callN (host := "SentRound") (pc := 33) (d' := 0) (b' := b + 4) (As := []) (rest := [.ref (b + 4), .ref (b)]) (L0 := [.inr (6, [.null, .null, .ref (b + 1), .ref (b + 2), .ref (b + 3), .int 0, .null]), .inl (E.2.2 1, (14, .inr (.inl fun _ => 0))), .inl (E.2.2 1, (14, .inr (.inl fun _ => 0))), .inl (E.2.2 1, (105, .inr (.inl fun _ => 0)))]) (Lc := [.inr (5, [.long 0, .long 0])]) (LF := lX5 E.2.2 (b + 4)) (L' := [.inr (6, [.null, .null, .ref (b + 1), .ref (b + 2), .ref (b + 3), .int 0, .null]), .inl (E.2.2 1, (14, .inr (.inl fun _ => 0))), .inl (E.2.2 1, (14, .inr (.inl fun _ => 0))), .inl (E.2.2 1, (105, .inr (.inl fun _ => 0))), .inr (5, [.long 0, .long 1])]) dX6_init_33 (by decide +kernel) im_X5_init ko_X5_init rfl (by decide) rfl rfl (Nat.le_of_ble_eq_true rfl) (Nat.le_of_ble_eq_true rfl) (Nat.le_of_ble_eq_true rfl) (Nat.le_of_ble_eq_true rfl) rfl (nX5 E (b + 4)) rfl rfl ?_
  refine NV_putF (pc := 36) (q0 := 0) (v := .ref (b + 4)) (L' := [.inr (6, [.null, .null, .ref (b + 1), .ref (b + 2), .ref (b + 3), .int 0, .ref (b + 4)]), .inl (E.2.2 1, (14, .inr (.inl fun _ => 0))), .inl (E.2.2 1, (14, .inr (.inl fun _ => 0))), .inl (E.2.2 1, (105, .inr (.inl fun _ => 0))), .inr (5, [.long 0, .long 1])]) dX6_init_36 fl_X6_24 pf_X6_6 rfl rfl (Nat.le_of_ble_eq_true rfl) rfl rfl rfl rfl ?_
  refine NV_aload_n (pc := 39) 0 dX6_init_39 rfl ?_
  refine NV_aload_n (pc := 40) 1 dX6_init_40 rfl ?_
  refine NV_putF (pc := 41) (q0 := 0) (v := .ref (a1)) (L' := [.inr (6, [.ref (a1), .null, .ref (b + 1), .ref (b + 2), .ref (b + 3), .int 0, .ref (b + 4)]), .inl (E.2.2 1, (14, .inr (.inl fun _ => 0))), .inl (E.2.2 1, (14, .inr (.inl fun _ => 0))), .inl (E.2.2 1, (105, .inr (.inl fun _ => 0))), .inr (5, [.long 0, .long 1])]) dX6_init_41 fl_X6_28 pf_X6_0 rfl rfl (Nat.le_of_ble_eq_true rfl) rfl rfl rfl rfl ?_
  refine NV_aload_n (pc := 44) 0 dX6_init_44 rfl ?_
  refine NV_aload_n (pc := 45) 2 dX6_init_45 rfl ?_
  refine NV_putF (pc := 46) (q0 := 0) (v := .ref (a2)) (L' := [.inr (6, [.ref (a1), .ref (a2), .ref (b + 1), .ref (b + 2), .ref (b + 3), .int 0, .ref (b + 4)]), .inl (E.2.2 1, (14, .inr (.inl fun _ => 0))), .inl (E.2.2 1, (14, .inr (.inl fun _ => 0))), .inl (E.2.2 1, (105, .inr (.inl fun _ => 0))), .inr (5, [.long 0, .long 1])]) dX6_init_46 fl_X6_32 pf_X6_1 rfl rfl (Nat.le_of_ble_eq_true rfl) rfl rfl rfl rfl ?_
  exact NV_ret (pc := 49) dX6_init_49 rfl (Nat.le_of_ble_eq_true rfl) (Nat.le_of_ble_eq_true rfl) rfl
def lX8 (cA : Nat → ClassId) (b a1 a2 : Nat) : List va_E := [.inr (8, [.ref (a1), .ref (a2), .ref (b + 1), .ref (b + 2), .ref (b + 3)]), .inl (cA 1, (14, .inr (.inl fun _ => 0))), .inl (cA 1, (14, .inr (.inl fun _ => 0))), .inr (5, [.long 0, .long 1])]
set_option maxHeartbeats 4000000 in
set_option maxRecDepth 100000 in
theorem nX8 (E : Nv) (b a1 a2 : Nat) : NV E 1 mX8_init (b, lX8 E.2.2 b a1 a2, 3, 30) 0 (lv_args 0 [.ref b, .ref a1, .ref a2]) [] [.inr (8, [.null, .null, .null, .null, .null])] 0 0 := by
  show NV E 1 mX8_init (b, lX8 E.2.2 b a1 a2, 3, 30) 0 [(0, .ref b), (1, .ref a1), (2, .ref a2)] [] [.inr (8, [.null, .null, .null, .null, .null])] 0 0
  refine NV_aload_n (pc := 0) 0 dX8_init_0 rfl ?_
  refine NV_obj (pc := 1) dX8_init_1 ml_X8_3 ?_
  refine NV_aload_n (pc := 4) 0 dX8_init_4 rfl ?_
  refine NV_bipush (pc := 5) (v := 14) dX8_init_5 (by decide) ?_
  refine NV_newJ (pc := 7) (N := 14) (a := b + 1) (L' := [.inr (8, [.null, .null, .null, .null, .null]), .inl (E.2.2 1, (14, .inr (.inl fun _ => 0)))]) dX8_init_7 aw_J (by decide) (by decide) (by decide) (Nat.le_of_ble_eq_true rfl) (Nat.le_of_ble_eq_true rfl) rfl rfl ?_
  refine NV_putF (pc := 9) (q0 := 0) (v := .ref (b + 1)) (L' := [.inr (8, [.null, .null, .ref (b + 1), .null, .null]), .inl (E.2.2 1, (14, .inr (.inl fun _ => 0)))]) dX8_init_9 fl_X8_9 pf_X8_2 rfl rfl (Nat.le_of_ble_eq_true rfl) rfl rfl rfl rfl ?_
  refine NV_aload_n (pc := 12) 0 dX8_init_12 rfl ?_
  refine NV_bipush (pc := 13) (v := 14) dX8_init_13 (by decide) ?_
  refine NV_newJ (pc := 15) (N := 14) (a := b + 2) (L' := [.inr (8, [.null, .null, .ref (b + 1), .null, .null]), .inl (E.2.2 1, (14, .inr (.inl fun _ => 0))), .inl (E.2.2 1, (14, .inr (.inl fun _ => 0)))]) dX8_init_15 aw_J (by decide) (by decide) (by decide) (Nat.le_of_ble_eq_true rfl) (Nat.le_of_ble_eq_true rfl) rfl rfl ?_
  refine NV_putF (pc := 17) (q0 := 0) (v := .ref (b + 2)) (L' := [.inr (8, [.null, .null, .ref (b + 1), .ref (b + 2), .null]), .inl (E.2.2 1, (14, .inr (.inl fun _ => 0))), .inl (E.2.2 1, (14, .inr (.inl fun _ => 0)))]) dX8_init_17 fl_X8_15 pf_X8_3 rfl rfl (Nat.le_of_ble_eq_true rfl) rfl rfl rfl rfl ?_
  refine NV_aload_n (pc := 20) 0 dX8_init_20 rfl ?_
  refine NV_new (pc := 21) (a := b + 3) (L' := [.inr (8, [.null, .null, .ref (b + 1), .ref (b + 2), .null]), .inl (E.2.2 1, (14, .inr (.inl fun _ => 0))), .inl (E.2.2 1, (14, .inr (.inl fun _ => 0))), .inr (5, [.long 0, .long 0])]) dX8_init_21 cl_X8_18 cO_X5 (Nat.le_of_ble_eq_true rfl) (Nat.le_of_ble_eq_true rfl) rfl rfl ?_
  refine NV_dup (pc := 24) dX8_init_24 rfl ?_
  refine NV_callN (host := "SentRound") (pc := 25) (d' := 0) (b' := b + 3) (As := []) (rest := [.ref (b + 3), .ref (b)]) (L0 := [.inr (8, [.null, .null, .ref (b + 1), .ref (b + 2), .null]), .inl (E.2.2 1, (14, .inr (.inl fun _ => 0))), .inl (E.2.2 1, (14, .inr (.inl fun _ => 0)))]) (Lc := [.inr (5, [.long 0, .long 0])]) (LF := lX5 E.2.2 (b + 3)) (L' := [.inr (8, [.null, .null, .ref (b + 1), .ref (b + 2), .null]), .inl (E.2.2 1, (14, .inr (.inl fun _ => 0))), .inl (E.2.2 1, (14, .inr (.inl fun _ => 0))), .inr (5, [.long 0, .long 1])]) dX8_init_25 (by decide +kernel) im_X5_init ko_X5_init rfl (by decide) rfl rfl (Nat.le_of_ble_eq_true rfl) (Nat.le_of_ble_eq_true rfl) (Nat.le_of_ble_eq_true rfl) (Nat.le_of_ble_eq_true rfl) rfl (nX5 E (b + 3)) rfl rfl ?_
  refine NV_putF (pc := 28) (q0 := 0) (v := .ref (b + 3)) (L' := [.inr (8, [.null, .null, .ref (b + 1), .ref (b + 2), .ref (b + 3)]), .inl (E.2.2 1, (14, .inr (.inl fun _ => 0))), .inl (E.2.2 1, (14, .inr (.inl fun _ => 0))), .inr (5, [.long 0, .long 1])]) dX8_init_28 fl_X8_21 pf_X8_4 rfl rfl (Nat.le_of_ble_eq_true rfl) rfl rfl rfl rfl ?_
  refine NV_aload_n (pc := 31) 0 dX8_init_31 rfl ?_
  refine NV_aload_n (pc := 32) 1 dX8_init_32 rfl ?_
  refine NV_putF (pc := 33) (q0 := 0) (v := .ref (a1)) (L' := [.inr (8, [.ref (a1), .null, .ref (b + 1), .ref (b + 2), .ref (b + 3)]), .inl (E.2.2 1, (14, .inr (.inl fun _ => 0))), .inl (E.2.2 1, (14, .inr (.inl fun _ => 0))), .inr (5, [.long 0, .long 1])]) dX8_init_33 fl_X8_25 pf_X8_0 rfl rfl (Nat.le_of_ble_eq_true rfl) rfl rfl rfl rfl ?_
  refine NV_aload_n (pc := 36) 0 dX8_init_36 rfl ?_
  refine NV_aload_n (pc := 37) 2 dX8_init_37 rfl ?_
  refine NV_putF (pc := 38) (q0 := 0) (v := .ref (a2)) (L' := [.inr (8, [.ref (a1), .ref (a2), .ref (b + 1), .ref (b + 2), .ref (b + 3)]), .inl (E.2.2 1, (14, .inr (.inl fun _ => 0))), .inl (E.2.2 1, (14, .inr (.inl fun _ => 0))), .inr (5, [.long 0, .long 1])]) dX8_init_38 fl_X8_29 pf_X8_1 rfl rfl (Nat.le_of_ble_eq_true rfl) rfl rfl rfl rfl ?_
  exact NV_ret (pc := 41) dX8_init_41 rfl (Nat.le_of_ble_eq_true rfl) (Nat.le_of_ble_eq_true rfl) rfl
def lX3 (cA : Nat → ClassId) (b a1 a2 : Nat) : List va_E := [.inr (3, [.ref (a1), .ref (a2), .ref (b + 1), .ref (b + 2), .int 0, .long 0]), .inl (cA 0, (14, .inl fun _ => 0)), .inl (cA 0, (2, .inl fun _ => 0))]
set_option maxHeartbeats 4000000 in
set_option maxRecDepth 100000 in
theorem nX3 (E : Nv) (b a1 a2 : Nat) : NV E 0 mX3_init (b, lX3 E.2.2 b a1 a2, 2, 16) 0 (lv_args 0 [.ref b, .ref a1, .ref a2]) [] [.inr (3, [.null, .null, .null, .null, .int 0, .long 0])] 0 0 := by
  show NV E 0 mX3_init (b, lX3 E.2.2 b a1 a2, 2, 16) 0 [(0, .ref b), (1, .ref a1), (2, .ref a2)] [] [.inr (3, [.null, .null, .null, .null, .int 0, .long 0])] 0 0
  refine NV_aload_n (pc := 0) 0 dX3_init_0 rfl ?_
  refine NV_obj (pc := 1) dX3_init_1 ml_X3_3 ?_
  refine NV_aload_n (pc := 4) 0 dX3_init_4 rfl ?_
  refine NV_bipush (pc := 5) (v := 14) dX3_init_5 (by decide) ?_
  refine NV_newI (pc := 7) (N := 14) (a := b + 1) (L' := [.inr (3, [.null, .null, .null, .null, .int 0, .long 0]), .inl (E.2.2 0, (14, .inl fun _ => 0))]) dX3_init_7 aw_I (by decide) (by decide) (by decide) (Nat.le_of_ble_eq_true rfl) (Nat.le_of_ble_eq_true rfl) rfl rfl ?_
  refine NV_putF (pc := 9) (q0 := 0) (v := .ref (b + 1)) (L' := [.inr (3, [.null, .null, .ref (b + 1), .null, .int 0, .long 0]), .inl (E.2.2 0, (14, .inl fun _ => 0))]) dX3_init_9 fl_X3_9 pf_X3_2 rfl rfl (Nat.le_of_ble_eq_true rfl) rfl rfl rfl rfl ?_
  refine NV_aload_n (pc := 12) 0 dX3_init_12 rfl ?_
  refine NV_iconst (pc := 13) (v := 2) dX3_init_13 (by decide) ?_
  refine NV_newI (pc := 14) (N := 2) (a := b + 2) (L' := [.inr (3, [.null, .null, .ref (b + 1), .null, .int 0, .long 0]), .inl (E.2.2 0, (14, .inl fun _ => 0)), .inl (E.2.2 0, (2, .inl fun _ => 0))]) dX3_init_14 aw_I (by decide) (by decide) (by decide) (Nat.le_of_ble_eq_true rfl) (Nat.le_of_ble_eq_true rfl) rfl rfl ?_
  refine NV_putF (pc := 16) (q0 := 0) (v := .ref (b + 2)) (L' := [.inr (3, [.null, .null, .ref (b + 1), .ref (b + 2), .int 0, .long 0]), .inl (E.2.2 0, (14, .inl fun _ => 0)), .inl (E.2.2 0, (2, .inl fun _ => 0))]) dX3_init_16 fl_X3_15 pf_X3_3 rfl rfl (Nat.le_of_ble_eq_true rfl) rfl rfl rfl rfl ?_
  refine NV_aload_n (pc := 19) 0 dX3_init_19 rfl ?_
  refine NV_aload_n (pc := 20) 1 dX3_init_20 rfl ?_
  refine NV_putF (pc := 21) (q0 := 0) (v := .ref (a1)) (L' := [.inr (3, [.ref (a1), .null, .ref (b + 1), .ref (b + 2), .int 0, .long 0]), .inl (E.2.2 0, (14, .inl fun _ => 0)), .inl (E.2.2 0, (2, .inl fun _ => 0))]) dX3_init_21 fl_X3_18 pf_X3_0 rfl rfl (Nat.le_of_ble_eq_true rfl) rfl rfl rfl rfl ?_
  refine NV_aload_n (pc := 24) 0 dX3_init_24 rfl ?_
  refine NV_aload_n (pc := 25) 2 dX3_init_25 rfl ?_
  refine NV_putF (pc := 26) (q0 := 0) (v := .ref (a2)) (L' := [.inr (3, [.ref (a1), .ref (a2), .ref (b + 1), .ref (b + 2), .int 0, .long 0]), .inl (E.2.2 0, (14, .inl fun _ => 0)), .inl (E.2.2 0, (2, .inl fun _ => 0))]) dX3_init_26 fl_X3_22 pf_X3_1 rfl rfl (Nat.le_of_ble_eq_true rfl) rfl rfl rfl rfl ?_
  exact NV_ret (pc := 29) dX3_init_29 rfl (Nat.le_of_ble_eq_true rfl) (Nat.le_of_ble_eq_true rfl) rfl
def lX4 (cA : Nat → ClassId) (b : Nat) : List va_E := [.inr (4, [.ref (b + 1), .ref (b + 2), .int 0, .long 0, .int 0]), .inl (cA 0, (60, .inl fun _ => 0)), .inr (5, [.long 0, .long 1])]
set_option maxHeartbeats 4000000 in
set_option maxRecDepth 100000 in
theorem nX4 (E : Nv) (b : Nat) : NV E 1 mX4_init (b, lX4 E.2.2 b, 2, 62) 0 (lv_args 0 [.ref b]) [] [.inr (4, [.null, .null, .int 0, .long 0, .int 0])] 0 0 := by
  show NV E 1 mX4_init (b, lX4 E.2.2 b, 2, 62) 0 [(0, .ref b)] [] [.inr (4, [.null, .null, .int 0, .long 0, .int 0])] 0 0
  refine NV_aload_n (pc := 0) 0 dX4_init_0 rfl ?_
  refine NV_obj (pc := 1) dX4_init_1 ml_X4_3 ?_
  refine NV_aload_n (pc := 4) 0 dX4_init_4 rfl ?_
  refine NV_bipush (pc := 5) (v := 60) dX4_init_5 (by decide) ?_
  refine NV_newI (pc := 7) (N := 60) (a := b + 1) (L' := [.inr (4, [.null, .null, .int 0, .long 0, .int 0]), .inl (E.2.2 0, (60, .inl fun _ => 0))]) dX4_init_7 aw_I (by decide) (by decide) (by decide) (Nat.le_of_ble_eq_true rfl) (Nat.le_of_ble_eq_true rfl) rfl rfl ?_
  refine NV_putF (pc := 9) (q0 := 0) (v := .ref (b + 1)) (L' := [.inr (4, [.ref (b + 1), .null, .int 0, .long 0, .int 0]), .inl (E.2.2 0, (60, .inl fun _ => 0))]) dX4_init_9 fl_X4_9 pf_X4_0 rfl rfl (Nat.le_of_ble_eq_true rfl) rfl rfl rfl rfl ?_
  refine NV_aload_n (pc := 12) 0 dX4_init_12 rfl ?_
  refine NV_new (pc := 13) (a := b + 2) (L' := [.inr (4, [.ref (b + 1), .null, .int 0, .long 0, .int 0]), .inl (E.2.2 0, (60, .inl fun _ => 0)), .inr (5, [.long 0, .long 0])]) dX4_init_13 cl_X4_15 cO_X5 (Nat.le_of_ble_eq_true rfl) (Nat.le_of_ble_eq_true rfl) rfl rfl ?_
  refine NV_dup (pc := 16) dX4_init_16 rfl ?_
  refine NV_callN (host := "SentRound") (pc := 17) (d' := 0) (b' := b + 2) (As := []) (rest := [.ref (b + 2), .ref (b)]) (L0 := [.inr (4, [.ref (b + 1), .null, .int 0, .long 0, .int 0]), .inl (E.2.2 0, (60, .inl fun _ => 0))]) (Lc := [.inr (5, [.long 0, .long 0])]) (LF := lX5 E.2.2 (b + 2)) (L' := [.inr (4, [.ref (b + 1), .null, .int 0, .long 0, .int 0]), .inl (E.2.2 0, (60, .inl fun _ => 0)), .inr (5, [.long 0, .long 1])]) dX4_init_17 (by decide +kernel) im_X5_init ko_X5_init rfl (by decide) rfl rfl (Nat.le_of_ble_eq_true rfl) (Nat.le_of_ble_eq_true rfl) (Nat.le_of_ble_eq_true rfl) (Nat.le_of_ble_eq_true rfl) rfl (nX5 E (b + 2)) rfl rfl ?_
  refine NV_putF (pc := 20) (q0 := 0) (v := .ref (b + 2)) (L' := [.inr (4, [.ref (b + 1), .ref (b + 2), .int 0, .long 0, .int 0]), .inl (E.2.2 0, (60, .inl fun _ => 0)), .inr (5, [.long 0, .long 1])]) dX4_init_20 fl_X4_18 pf_X4_1 rfl rfl (Nat.le_of_ble_eq_true rfl) rfl rfl rfl rfl ?_
  exact NV_ret (pc := 23) dX4_init_23 rfl (Nat.le_of_ble_eq_true rfl) (Nat.le_of_ble_eq_true rfl) rfl
def lX9 (cA : Nat → ClassId) (b : Nat) : List va_E := [.inr (9, [.ref (b + 1), .ref (b + 6), .ref (b + 7), .int 0]), .inl (cA 3, (4, .inr (.inr (.inr (.inr fun i => some (b + 1 + 1 + i)))))), .inl (cA 0, (60, .inl fun _ => 0)), .inl (cA 0, (60, .inl fun _ => 0)), .inl (cA 0, (60, .inl fun _ => 0)), .inl (cA 0, (60, .inl fun _ => 0)), .inl (cA 0, (4, .inl fun _ => -1)), .inl (cA 0, (4, .inl fun _ => 0))]
set_option maxHeartbeats 4000000 in
set_option maxRecDepth 100000 in
theorem nX9 (E : Nv) (b : Nat) : NV E 1 mX9_init (b, lX9 E.2.2 b, 7, 252) 0 (lv_args 0 [.ref b]) [] [.inr (9, [.null, .null, .null, .int 0])] 0 0 := by
  show NV E 1 mX9_init (b, lX9 E.2.2 b, 7, 252) 0 [(0, .ref b)] [] [.inr (9, [.null, .null, .null, .int 0])] 0 0
  refine NV_aload_n (pc := 0) 0 dX9_init_0 rfl ?_
  refine NV_obj (pc := 1) dX9_init_1 ml_X9_3 ?_
  refine NV_aload_n (pc := 4) 0 dX9_init_4 rfl ?_
  refine NV_iconst (pc := 5) (v := 4) dX9_init_5 (by decide) ?_
  refine NV_bipush (pc := 6) (v := 60) dX9_init_6 (by decide) ?_
  refine NV_rows (pc := 8) (M' := 60) (a := b + 1) (L' := [.inr (9, [.null, .null, .null, .int 0]), .inl (E.2.2 3, (4, .inr (.inr (.inr (.inr fun i => some (b + 1 + 1 + i)))))), .inl (E.2.2 0, (60, .inl fun _ => 0)), .inl (E.2.2 0, (60, .inl fun _ => 0)), .inl (E.2.2 0, (60, .inl fun _ => 0)), .inl (E.2.2 0, (60, .inl fun _ => 0))]) dX9_init_8 cl_X9_9 (by decide) (by decide) (by decide) (Nat.le_of_ble_eq_true rfl) (Nat.le_of_ble_eq_true rfl) rfl rfl ?_
  refine NV_putF (pc := 12) (q0 := 0) (v := .ref (b + 1)) (L' := [.inr (9, [.ref (b + 1), .null, .null, .int 0]), .inl (E.2.2 3, (4, .inr (.inr (.inr (.inr fun i => some (b + 1 + 1 + i)))))), .inl (E.2.2 0, (60, .inl fun _ => 0)), .inl (E.2.2 0, (60, .inl fun _ => 0)), .inl (E.2.2 0, (60, .inl fun _ => 0)), .inl (E.2.2 0, (60, .inl fun _ => 0))]) dX9_init_12 fl_X9_11 pf_X9_0 rfl rfl (Nat.le_of_ble_eq_true rfl) rfl rfl rfl rfl ?_
  refine NV_aload_n (pc := 15) 0 dX9_init_15 rfl ?_
  refine NV_iconst (pc := 16) (v := 4) dX9_init_16 (by decide) ?_
  refine NV_newI (pc := 17) (N := 4) (a := b + 6) (L' := [.inr (9, [.ref (b + 1), .null, .null, .int 0]), .inl (E.2.2 3, (4, .inr (.inr (.inr (.inr fun i => some (b + 1 + 1 + i)))))), .inl (E.2.2 0, (60, .inl fun _ => 0)), .inl (E.2.2 0, (60, .inl fun _ => 0)), .inl (E.2.2 0, (60, .inl fun _ => 0)), .inl (E.2.2 0, (60, .inl fun _ => 0)), .inl (E.2.2 0, (4, .inl fun _ => 0))]) dX9_init_17 aw_I (by decide) (by decide) (by decide) (Nat.le_of_ble_eq_true rfl) (Nat.le_of_ble_eq_true rfl) rfl rfl ?_
  refine NV_putF (pc := 19) (q0 := 0) (v := .ref (b + 6)) (L' := [.inr (9, [.ref (b + 1), .ref (b + 6), .null, .int 0]), .inl (E.2.2 3, (4, .inr (.inr (.inr (.inr fun i => some (b + 1 + 1 + i)))))), .inl (E.2.2 0, (60, .inl fun _ => 0)), .inl (E.2.2 0, (60, .inl fun _ => 0)), .inl (E.2.2 0, (60, .inl fun _ => 0)), .inl (E.2.2 0, (60, .inl fun _ => 0)), .inl (E.2.2 0, (4, .inl fun _ => 0))]) dX9_init_19 fl_X9_16 pf_X9_1 rfl rfl (Nat.le_of_ble_eq_true rfl) rfl rfl rfl rfl ?_
  refine NV_aload_n (pc := 22) 0 dX9_init_22 rfl ?_
  refine NV_iconst (pc := 23) (v := 4) dX9_init_23 (by decide) ?_
  refine NV_newI (pc := 24) (N := 4) (a := b + 7) (L' := [.inr (9, [.ref (b + 1), .ref (b + 6), .null, .int 0]), .inl (E.2.2 3, (4, .inr (.inr (.inr (.inr fun i => some (b + 1 + 1 + i)))))), .inl (E.2.2 0, (60, .inl fun _ => 0)), .inl (E.2.2 0, (60, .inl fun _ => 0)), .inl (E.2.2 0, (60, .inl fun _ => 0)), .inl (E.2.2 0, (60, .inl fun _ => 0)), .inl (E.2.2 0, (4, .inl fun _ => 0)), .inl (E.2.2 0, (4, .inl fun _ => 0))]) dX9_init_24 aw_I (by decide) (by decide) (by decide) (Nat.le_of_ble_eq_true rfl) (Nat.le_of_ble_eq_true rfl) rfl rfl ?_
  refine NV_putF (pc := 26) (q0 := 0) (v := .ref (b + 7)) (L' := [.inr (9, [.ref (b + 1), .ref (b + 6), .ref (b + 7), .int 0]), .inl (E.2.2 3, (4, .inr (.inr (.inr (.inr fun i => some (b + 1 + 1 + i)))))), .inl (E.2.2 0, (60, .inl fun _ => 0)), .inl (E.2.2 0, (60, .inl fun _ => 0)), .inl (E.2.2 0, (60, .inl fun _ => 0)), .inl (E.2.2 0, (60, .inl fun _ => 0)), .inl (E.2.2 0, (4, .inl fun _ => 0)), .inl (E.2.2 0, (4, .inl fun _ => 0))]) dX9_init_26 fl_X9_20 pf_X9_2 rfl rfl (Nat.le_of_ble_eq_true rfl) rfl rfl rfl rfl ?_
  refine NV_aload_n (pc := 29) 0 dX9_init_29 rfl ?_
  refine NV_get (pc := 30) (q0 := 0) (v := .ref (b + 6)) dX9_init_30 fl_X9_16 rfl rfl rfl ?_
  refine NV_iconst (pc := 33) (v := -1) dX9_init_33 (by decide) ?_
  refine NV_callS (pc := 34) (d' := 0) (As := [.ref (b + 6), .int (-1)]) (rest := []) (LF := [.inr (9, [.ref (b + 1), .ref (b + 6), .ref (b + 7), .int 0]), .inl (E.2.2 3, (4, .inr (.inr (.inr (.inr fun i => some (b + 1 + 1 + i)))))), .inl (E.2.2 0, (60, .inl fun _ => 0)), .inl (E.2.2 0, (60, .inl fun _ => 0)), .inl (E.2.2 0, (60, .inl fun _ => 0)), .inl (E.2.2 0, (60, .inl fun _ => 0)), .inl (E.2.2 0, (4, .inl fun _ => -1)), .inl (E.2.2 0, (4, .inl fun _ => 0))]) dX9_init_34 ml_X9_23 ks_J7_fill_53178 ko_J7_fill_53178 (by decide) rfl rfl (Nat.le_of_ble_eq_true rfl) (Nat.le_of_ble_eq_true rfl) (Nat.le_of_ble_eq_true rfl) (Nat.le_of_ble_eq_true rfl) (nfill E 6 b _ _ rfl rfl) ?_
  exact NV_ret (pc := 37) dX9_init_37 rfl (Nat.le_of_ble_eq_true rfl) (Nat.le_of_ble_eq_true rfl) rfl
def lX10 (cA : Nat → ClassId) (b : Nat) : List va_E := (.inr (10, [.ref (b + 1), .ref (b + 10), .ref (b + 39), .ref (b + 41), .ref (b + 44), .ref (b + 49), .ref (b + 53), .ref (b + 56), .ref (b + 59)])) :: ((((((((lX1 cA (b + 1) ++ lX7 cA (b + 10) (b + 1)) ++ lX0 cA (b + 39) (b + 1) (b + 10)) ++ lX2 cA (b + 41) (b + 1) (b + 10)) ++ lX6 cA (b + 44) (b + 1) (b + 10)) ++ lX8 cA (b + 49) (b + 1) (b + 10)) ++ lX3 cA (b + 53) (b + 1) (b + 10)) ++ lX4 cA (b + 56)) ++ lX9 cA (b + 59))
set_option maxHeartbeats 4000000 in
set_option maxRecDepth 100000 in
theorem nX10 (E : Nv) (b : Nat) : NV E 2 mX10_init (b, lX10 E.2.2 b, 66, 1919) 0 (lv_args 0 [.ref b]) [] [.inr (10, [.null, .null, .null, .null, .null, .null, .null, .null, .null])] 0 0 := by
  show NV E 2 mX10_init (b, lX10 E.2.2 b, 66, 1919) 0 [(0, .ref b)] [] [.inr (10, [.null, .null, .null, .null, .null, .null, .null, .null, .null])] 0 0
  refine NV_aload_n (pc := 0) 0 dX10_init_0 rfl ?_
  refine NV_obj (pc := 1) dX10_init_1 ml_X10_3 ?_
  refine NV_aload_n (pc := 4) 0 dX10_init_4 rfl ?_
  refine NV_new (pc := 5) (a := b + 1) (L' := (.inr (10, [.null, .null, .null, .null, .null, .null, .null, .null, .null])) :: [.inr (1, [.int 0, .int 0, .int 0, .null, .null, .int 0, .null, .null, .null, .null, .null, .null])]) dX10_init_5 cl_X10_9 cO_X1 (Nat.le_of_ble_eq_true rfl) (Nat.le_of_ble_eq_true rfl) rfl rfl ?_
  refine NV_dup (pc := 8) dX10_init_8 rfl ?_
  refine NV_callN (host := "SentRound") (pc := 9) (d' := 0) (b' := b + 1) (As := []) (rest := [.ref (b + 1), .ref (b)]) (L0 := [.inr (10, [.null, .null, .null, .null, .null, .null, .null, .null, .null])]) (Lc := [.inr (1, [.int 0, .int 0, .int 0, .null, .null, .int 0, .null, .null, .null, .null, .null, .null])]) (LF := lX1 E.2.2 (b + 1)) (L' := (.inr (10, [.null, .null, .null, .null, .null, .null, .null, .null, .null])) :: lX1 E.2.2 (b + 1)) dX10_init_9 (by decide +kernel) im_X1_init ko_X1_init rfl (by decide) rfl rfl (Nat.le_of_ble_eq_true rfl) (Nat.le_of_ble_eq_true rfl) (Nat.le_of_ble_eq_true rfl) (Nat.le_of_ble_eq_true rfl) rfl (nX1 E (b + 1)) rfl rfl ?_
  refine NV_putF (pc := 12) (q0 := 0) (v := .ref (b + 1)) (L' := (.inr (10, [.ref (b + 1), .null, .null, .null, .null, .null, .null, .null, .null])) :: lX1 E.2.2 (b + 1)) dX10_init_12 fl_X10_12 pf_X10_0 rfl rfl (Nat.le_of_ble_eq_true rfl) rfl rfl rfl rfl ?_
  refine NV_aload_n (pc := 15) 0 dX10_init_15 rfl ?_
  refine NV_new (pc := 16) (a := b + 10) (L' := (.inr (10, [.ref (b + 1), .null, .null, .null, .null, .null, .null, .null, .null])) :: (lX1 E.2.2 (b + 1) ++ [.inr (7, [.null, .null, .null, .null, .null, .null, .null, .null, .null])])) dX10_init_16 cl_X10_18 cO_X7 (Nat.le_of_ble_eq_true rfl) (Nat.le_of_ble_eq_true rfl) rfl rfl ?_
  refine NV_dup (pc := 19) dX10_init_19 rfl ?_
  refine NV_aload_n (pc := 20) 0 dX10_init_20 rfl ?_
  refine NV_get (pc := 21) (q0 := 0) (v := .ref (b + 1)) dX10_init_21 fl_X10_12 rfl rfl rfl ?_
  refine NV_callI (pc := 24) (d' := 0) (b' := b + 10) (As := [.ref (b + 1)]) (rest := [.ref (b + 10), .ref (b)]) (L0 := (.inr (10, [.ref (b + 1), .null, .null, .null, .null, .null, .null, .null, .null])) :: lX1 E.2.2 (b + 1)) (Lc := [.inr (7, [.null, .null, .null, .null, .null, .null, .null, .null, .null])]) (LF := lX7 E.2.2 (b + 10) (b + 1)) (L' := (.inr (10, [.ref (b + 1), .null, .null, .null, .null, .null, .null, .null, .null])) :: (lX1 E.2.2 (b + 1) ++ lX7 E.2.2 (b + 10) (b + 1))) dX10_init_24 ml_X10_20 im_X7_init ko_X7_init rfl (by decide) rfl rfl (Nat.le_of_ble_eq_true rfl) (Nat.le_of_ble_eq_true rfl) (Nat.le_of_ble_eq_true rfl) (Nat.le_of_ble_eq_true rfl) rfl (nX7 E (b + 10) (b + 1)) rfl rfl ?_
  refine NV_putF (pc := 27) (q0 := 0) (v := .ref (b + 10)) (L' := (.inr (10, [.ref (b + 1), .ref (b + 10), .null, .null, .null, .null, .null, .null, .null])) :: (lX1 E.2.2 (b + 1) ++ lX7 E.2.2 (b + 10) (b + 1))) dX10_init_27 fl_X10_23 pf_X10_1 rfl rfl (Nat.le_of_ble_eq_true rfl) rfl rfl rfl rfl ?_
  refine NV_aload_n (pc := 30) 0 dX10_init_30 rfl ?_
  refine NV_new (pc := 31) (a := b + 39) (L' := (.inr (10, [.ref (b + 1), .ref (b + 10), .null, .null, .null, .null, .null, .null, .null])) :: ((lX1 E.2.2 (b + 1) ++ lX7 E.2.2 (b + 10) (b + 1)) ++ [.inr (0, [.null, .null, .null, .int 0, .int 0, .int 0])])) dX10_init_31 cl_X10_27 cO_X0 (Nat.le_of_ble_eq_true rfl) (Nat.le_of_ble_eq_true rfl) rfl rfl ?_
  refine NV_dup (pc := 34) dX10_init_34 rfl ?_
  refine NV_aload_n (pc := 35) 0 dX10_init_35 rfl ?_
  refine NV_get (pc := 36) (q0 := 0) (v := .ref (b + 1)) dX10_init_36 fl_X10_12 rfl rfl rfl ?_
  refine NV_aload_n (pc := 39) 0 dX10_init_39 rfl ?_
  refine NV_get (pc := 40) (q0 := 0) (v := .ref (b + 10)) dX10_init_40 fl_X10_23 rfl rfl rfl ?_
  refine NV_callI (pc := 43) (d' := 0) (b' := b + 39) (As := [.ref (b + 1), .ref (b + 10)]) (rest := [.ref (b + 39), .ref (b)]) (L0 := (.inr (10, [.ref (b + 1), .ref (b + 10), .null, .null, .null, .null, .null, .null, .null])) :: (lX1 E.2.2 (b + 1) ++ lX7 E.2.2 (b + 10) (b + 1))) (Lc := [.inr (0, [.null, .null, .null, .int 0, .int 0, .int 0])]) (LF := lX0 E.2.2 (b + 39) (b + 1) (b + 10)) (L' := (.inr (10, [.ref (b + 1), .ref (b + 10), .null, .null, .null, .null, .null, .null, .null])) :: ((lX1 E.2.2 (b + 1) ++ lX7 E.2.2 (b + 10) (b + 1)) ++ lX0 E.2.2 (b + 39) (b + 1) (b + 10))) dX10_init_43 ml_X10_29 im_X0_init ko_X0_init rfl (by decide) rfl rfl (Nat.le_of_ble_eq_true rfl) (Nat.le_of_ble_eq_true rfl) (Nat.le_of_ble_eq_true rfl) (Nat.le_of_ble_eq_true rfl) rfl (nX0 E (b + 39) (b + 1) (b + 10)) rfl rfl ?_
  refine NV_putF (pc := 46) (q0 := 0) (v := .ref (b + 39)) (L' := (.inr (10, [.ref (b + 1), .ref (b + 10), .ref (b + 39), .null, .null, .null, .null, .null, .null])) :: ((lX1 E.2.2 (b + 1) ++ lX7 E.2.2 (b + 10) (b + 1)) ++ lX0 E.2.2 (b + 39) (b + 1) (b + 10))) dX10_init_46 fl_X10_32 pf_X10_2 rfl rfl (Nat.le_of_ble_eq_true rfl) rfl rfl rfl rfl ?_
  refine NV_aload_n (pc := 49) 0 dX10_init_49 rfl ?_
  refine NV_new (pc := 50) (a := b + 41) (L' := (.inr (10, [.ref (b + 1), .ref (b + 10), .ref (b + 39), .null, .null, .null, .null, .null, .null])) :: (((lX1 E.2.2 (b + 1) ++ lX7 E.2.2 (b + 10) (b + 1)) ++ lX0 E.2.2 (b + 39) (b + 1) (b + 10)) ++ [.inr (2, [.null, .null, .null, .null])])) dX10_init_50 cl_X10_36 cO_X2 (Nat.le_of_ble_eq_true rfl) (Nat.le_of_ble_eq_true rfl) rfl rfl ?_
  refine NV_dup (pc := 53) dX10_init_53 rfl ?_
  refine NV_aload_n (pc := 54) 0 dX10_init_54 rfl ?_
  refine NV_get (pc := 55) (q0 := 0) (v := .ref (b + 1)) dX10_init_55 fl_X10_12 rfl rfl rfl ?_
  refine NV_aload_n (pc := 58) 0 dX10_init_58 rfl ?_
  refine NV_get (pc := 59) (q0 := 0) (v := .ref (b + 10)) dX10_init_59 fl_X10_23 rfl rfl rfl ?_
  refine NV_callI (pc := 62) (d' := 0) (b' := b + 41) (As := [.ref (b + 1), .ref (b + 10)]) (rest := [.ref (b + 41), .ref (b)]) (L0 := (.inr (10, [.ref (b + 1), .ref (b + 10), .ref (b + 39), .null, .null, .null, .null, .null, .null])) :: ((lX1 E.2.2 (b + 1) ++ lX7 E.2.2 (b + 10) (b + 1)) ++ lX0 E.2.2 (b + 39) (b + 1) (b + 10))) (Lc := [.inr (2, [.null, .null, .null, .null])]) (LF := lX2 E.2.2 (b + 41) (b + 1) (b + 10)) (L' := (.inr (10, [.ref (b + 1), .ref (b + 10), .ref (b + 39), .null, .null, .null, .null, .null, .null])) :: (((lX1 E.2.2 (b + 1) ++ lX7 E.2.2 (b + 10) (b + 1)) ++ lX0 E.2.2 (b + 39) (b + 1) (b + 10)) ++ lX2 E.2.2 (b + 41) (b + 1) (b + 10))) dX10_init_62 ml_X10_38 im_X2_init ko_X2_init rfl (by decide) rfl rfl (Nat.le_of_ble_eq_true rfl) (Nat.le_of_ble_eq_true rfl) (Nat.le_of_ble_eq_true rfl) (Nat.le_of_ble_eq_true rfl) rfl (nX2 E (b + 41) (b + 1) (b + 10)) rfl rfl ?_
  refine NV_putF (pc := 65) (q0 := 0) (v := .ref (b + 41)) (L' := (.inr (10, [.ref (b + 1), .ref (b + 10), .ref (b + 39), .ref (b + 41), .null, .null, .null, .null, .null])) :: (((lX1 E.2.2 (b + 1) ++ lX7 E.2.2 (b + 10) (b + 1)) ++ lX0 E.2.2 (b + 39) (b + 1) (b + 10)) ++ lX2 E.2.2 (b + 41) (b + 1) (b + 10))) dX10_init_65 fl_X10_39 pf_X10_3 rfl rfl (Nat.le_of_ble_eq_true rfl) rfl rfl rfl rfl ?_
  refine NV_aload_n (pc := 68) 0 dX10_init_68 rfl ?_
  refine NV_new (pc := 69) (a := b + 44) (L' := (.inr (10, [.ref (b + 1), .ref (b + 10), .ref (b + 39), .ref (b + 41), .null, .null, .null, .null, .null])) :: ((((lX1 E.2.2 (b + 1) ++ lX7 E.2.2 (b + 10) (b + 1)) ++ lX0 E.2.2 (b + 39) (b + 1) (b + 10)) ++ lX2 E.2.2 (b + 41) (b + 1) (b + 10)) ++ [.inr (6, [.null, .null, .null, .null, .null, .int 0, .null])])) dX10_init_69 cl_X10_43 cO_X6 (Nat.le_of_ble_eq_true rfl) (Nat.le_of_ble_eq_true rfl) rfl rfl ?_
  refine NV_dup (pc := 72) dX10_init_72 rfl ?_
  refine NV_aload_n (pc := 73) 0 dX10_init_73 rfl ?_
  refine NV_get (pc := 74) (q0 := 0) (v := .ref (b + 1)) dX10_init_74 fl_X10_12 rfl rfl rfl ?_
  refine NV_aload_n (pc := 77) 0 dX10_init_77 rfl ?_
  refine NV_get (pc := 78) (q0 := 0) (v := .ref (b + 10)) dX10_init_78 fl_X10_23 rfl rfl rfl ?_
  refine NV_callI (pc := 81) (d' := 1) (b' := b + 44) (As := [.ref (b + 1), .ref (b + 10)]) (rest := [.ref (b + 44), .ref (b)]) (L0 := (.inr (10, [.ref (b + 1), .ref (b + 10), .ref (b + 39), .ref (b + 41), .null, .null, .null, .null, .null])) :: (((lX1 E.2.2 (b + 1) ++ lX7 E.2.2 (b + 10) (b + 1)) ++ lX0 E.2.2 (b + 39) (b + 1) (b + 10)) ++ lX2 E.2.2 (b + 41) (b + 1) (b + 10))) (Lc := [.inr (6, [.null, .null, .null, .null, .null, .int 0, .null])]) (LF := lX6 E.2.2 (b + 44) (b + 1) (b + 10)) (L' := (.inr (10, [.ref (b + 1), .ref (b + 10), .ref (b + 39), .ref (b + 41), .null, .null, .null, .null, .null])) :: ((((lX1 E.2.2 (b + 1) ++ lX7 E.2.2 (b + 10) (b + 1)) ++ lX0 E.2.2 (b + 39) (b + 1) (b + 10)) ++ lX2 E.2.2 (b + 41) (b + 1) (b + 10)) ++ lX6 E.2.2 (b + 44) (b + 1) (b + 10))) dX10_init_81 ml_X10_45 im_X6_init ko_X6_init rfl (by decide) rfl rfl (Nat.le_of_ble_eq_true rfl) (Nat.le_of_ble_eq_true rfl) (Nat.le_of_ble_eq_true rfl) (Nat.le_of_ble_eq_true rfl) rfl (nX6 E (b + 44) (b + 1) (b + 10)) rfl rfl ?_
  refine NV_putF (pc := 84) (q0 := 0) (v := .ref (b + 44)) (L' := (.inr (10, [.ref (b + 1), .ref (b + 10), .ref (b + 39), .ref (b + 41), .ref (b + 44), .null, .null, .null, .null])) :: ((((lX1 E.2.2 (b + 1) ++ lX7 E.2.2 (b + 10) (b + 1)) ++ lX0 E.2.2 (b + 39) (b + 1) (b + 10)) ++ lX2 E.2.2 (b + 41) (b + 1) (b + 10)) ++ lX6 E.2.2 (b + 44) (b + 1) (b + 10))) dX10_init_84 fl_X10_46 pf_X10_4 rfl rfl (Nat.le_of_ble_eq_true rfl) rfl rfl rfl rfl ?_
  refine NV_aload_n (pc := 87) 0 dX10_init_87 rfl ?_
  refine NV_new (pc := 88) (a := b + 49) (L' := (.inr (10, [.ref (b + 1), .ref (b + 10), .ref (b + 39), .ref (b + 41), .ref (b + 44), .null, .null, .null, .null])) :: (((((lX1 E.2.2 (b + 1) ++ lX7 E.2.2 (b + 10) (b + 1)) ++ lX0 E.2.2 (b + 39) (b + 1) (b + 10)) ++ lX2 E.2.2 (b + 41) (b + 1) (b + 10)) ++ lX6 E.2.2 (b + 44) (b + 1) (b + 10)) ++ [.inr (8, [.null, .null, .null, .null, .null])])) dX10_init_88 cl_X10_50 cO_X8 (Nat.le_of_ble_eq_true rfl) (Nat.le_of_ble_eq_true rfl) rfl rfl ?_
  refine NV_dup (pc := 91) dX10_init_91 rfl ?_
  refine NV_aload_n (pc := 92) 0 dX10_init_92 rfl ?_
  refine NV_get (pc := 93) (q0 := 0) (v := .ref (b + 1)) dX10_init_93 fl_X10_12 rfl rfl rfl ?_
  refine NV_aload_n (pc := 96) 0 dX10_init_96 rfl ?_
  refine NV_get (pc := 97) (q0 := 0) (v := .ref (b + 10)) dX10_init_97 fl_X10_23 rfl rfl rfl ?_
  refine NV_callI (pc := 100) (d' := 1) (b' := b + 49) (As := [.ref (b + 1), .ref (b + 10)]) (rest := [.ref (b + 49), .ref (b)]) (L0 := (.inr (10, [.ref (b + 1), .ref (b + 10), .ref (b + 39), .ref (b + 41), .ref (b + 44), .null, .null, .null, .null])) :: ((((lX1 E.2.2 (b + 1) ++ lX7 E.2.2 (b + 10) (b + 1)) ++ lX0 E.2.2 (b + 39) (b + 1) (b + 10)) ++ lX2 E.2.2 (b + 41) (b + 1) (b + 10)) ++ lX6 E.2.2 (b + 44) (b + 1) (b + 10))) (Lc := [.inr (8, [.null, .null, .null, .null, .null])]) (LF := lX8 E.2.2 (b + 49) (b + 1) (b + 10)) (L' := (.inr (10, [.ref (b + 1), .ref (b + 10), .ref (b + 39), .ref (b + 41), .ref (b + 44), .null, .null, .null, .null])) :: (((((lX1 E.2.2 (b + 1) ++ lX7 E.2.2 (b + 10) (b + 1)) ++ lX0 E.2.2 (b + 39) (b + 1) (b + 10)) ++ lX2 E.2.2 (b + 41) (b + 1) (b + 10)) ++ lX6 E.2.2 (b + 44) (b + 1) (b + 10)) ++ lX8 E.2.2 (b + 49) (b + 1) (b + 10))) dX10_init_100 ml_X10_52 im_X8_init ko_X8_init rfl (by decide) rfl rfl (Nat.le_of_ble_eq_true rfl) (Nat.le_of_ble_eq_true rfl) (Nat.le_of_ble_eq_true rfl) (Nat.le_of_ble_eq_true rfl) rfl (nX8 E (b + 49) (b + 1) (b + 10)) rfl rfl ?_
  refine NV_putF (pc := 103) (q0 := 0) (v := .ref (b + 49)) (L' := (.inr (10, [.ref (b + 1), .ref (b + 10), .ref (b + 39), .ref (b + 41), .ref (b + 44), .ref (b + 49), .null, .null, .null])) :: (((((lX1 E.2.2 (b + 1) ++ lX7 E.2.2 (b + 10) (b + 1)) ++ lX0 E.2.2 (b + 39) (b + 1) (b + 10)) ++ lX2 E.2.2 (b + 41) (b + 1) (b + 10)) ++ lX6 E.2.2 (b + 44) (b + 1) (b + 10)) ++ lX8 E.2.2 (b + 49) (b + 1) (b + 10))) dX10_init_103 fl_X10_53 pf_X10_5 rfl rfl (Nat.le_of_ble_eq_true rfl) rfl rfl rfl rfl ?_
  refine NV_aload_n (pc := 106) 0 dX10_init_106 rfl ?_
  refine NV_new (pc := 107) (a := b + 53) (L' := (.inr (10, [.ref (b + 1), .ref (b + 10), .ref (b + 39), .ref (b + 41), .ref (b + 44), .ref (b + 49), .null, .null, .null])) :: ((((((lX1 E.2.2 (b + 1) ++ lX7 E.2.2 (b + 10) (b + 1)) ++ lX0 E.2.2 (b + 39) (b + 1) (b + 10)) ++ lX2 E.2.2 (b + 41) (b + 1) (b + 10)) ++ lX6 E.2.2 (b + 44) (b + 1) (b + 10)) ++ lX8 E.2.2 (b + 49) (b + 1) (b + 10)) ++ [.inr (3, [.null, .null, .null, .null, .int 0, .long 0])])) dX10_init_107 cl_X10_57 cO_X3 (Nat.le_of_ble_eq_true rfl) (Nat.le_of_ble_eq_true rfl) rfl rfl ?_
  refine NV_dup (pc := 110) dX10_init_110 rfl ?_
  refine NV_aload_n (pc := 111) 0 dX10_init_111 rfl ?_
  refine NV_get (pc := 112) (q0 := 0) (v := .ref (b + 1)) dX10_init_112 fl_X10_12 rfl rfl rfl ?_
  refine NV_aload_n (pc := 115) 0 dX10_init_115 rfl ?_
  refine NV_get (pc := 116) (q0 := 0) (v := .ref (b + 10)) dX10_init_116 fl_X10_23 rfl rfl rfl ?_
  refine NV_callI (pc := 119) (d' := 0) (b' := b + 53) (As := [.ref (b + 1), .ref (b + 10)]) (rest := [.ref (b + 53), .ref (b)]) (L0 := (.inr (10, [.ref (b + 1), .ref (b + 10), .ref (b + 39), .ref (b + 41), .ref (b + 44), .ref (b + 49), .null, .null, .null])) :: (((((lX1 E.2.2 (b + 1) ++ lX7 E.2.2 (b + 10) (b + 1)) ++ lX0 E.2.2 (b + 39) (b + 1) (b + 10)) ++ lX2 E.2.2 (b + 41) (b + 1) (b + 10)) ++ lX6 E.2.2 (b + 44) (b + 1) (b + 10)) ++ lX8 E.2.2 (b + 49) (b + 1) (b + 10))) (Lc := [.inr (3, [.null, .null, .null, .null, .int 0, .long 0])]) (LF := lX3 E.2.2 (b + 53) (b + 1) (b + 10)) (L' := (.inr (10, [.ref (b + 1), .ref (b + 10), .ref (b + 39), .ref (b + 41), .ref (b + 44), .ref (b + 49), .null, .null, .null])) :: ((((((lX1 E.2.2 (b + 1) ++ lX7 E.2.2 (b + 10) (b + 1)) ++ lX0 E.2.2 (b + 39) (b + 1) (b + 10)) ++ lX2 E.2.2 (b + 41) (b + 1) (b + 10)) ++ lX6 E.2.2 (b + 44) (b + 1) (b + 10)) ++ lX8 E.2.2 (b + 49) (b + 1) (b + 10)) ++ lX3 E.2.2 (b + 53) (b + 1) (b + 10))) dX10_init_119 ml_X10_59 im_X3_init ko_X3_init rfl (by decide) rfl rfl (Nat.le_of_ble_eq_true rfl) (Nat.le_of_ble_eq_true rfl) (Nat.le_of_ble_eq_true rfl) (Nat.le_of_ble_eq_true rfl) rfl (nX3 E (b + 53) (b + 1) (b + 10)) rfl rfl ?_
  refine NV_putF (pc := 122) (q0 := 0) (v := .ref (b + 53)) (L' := (.inr (10, [.ref (b + 1), .ref (b + 10), .ref (b + 39), .ref (b + 41), .ref (b + 44), .ref (b + 49), .ref (b + 53), .null, .null])) :: ((((((lX1 E.2.2 (b + 1) ++ lX7 E.2.2 (b + 10) (b + 1)) ++ lX0 E.2.2 (b + 39) (b + 1) (b + 10)) ++ lX2 E.2.2 (b + 41) (b + 1) (b + 10)) ++ lX6 E.2.2 (b + 44) (b + 1) (b + 10)) ++ lX8 E.2.2 (b + 49) (b + 1) (b + 10)) ++ lX3 E.2.2 (b + 53) (b + 1) (b + 10))) dX10_init_122 fl_X10_60 pf_X10_6 rfl rfl (Nat.le_of_ble_eq_true rfl) rfl rfl rfl rfl ?_
  refine NV_aload_n (pc := 125) 0 dX10_init_125 rfl ?_
  refine NV_new (pc := 126) (a := b + 56) (L' := (.inr (10, [.ref (b + 1), .ref (b + 10), .ref (b + 39), .ref (b + 41), .ref (b + 44), .ref (b + 49), .ref (b + 53), .null, .null])) :: (((((((lX1 E.2.2 (b + 1) ++ lX7 E.2.2 (b + 10) (b + 1)) ++ lX0 E.2.2 (b + 39) (b + 1) (b + 10)) ++ lX2 E.2.2 (b + 41) (b + 1) (b + 10)) ++ lX6 E.2.2 (b + 44) (b + 1) (b + 10)) ++ lX8 E.2.2 (b + 49) (b + 1) (b + 10)) ++ lX3 E.2.2 (b + 53) (b + 1) (b + 10)) ++ [.inr (4, [.null, .null, .int 0, .long 0, .int 0])])) dX10_init_126 cl_X10_64 cO_X4 (Nat.le_of_ble_eq_true rfl) (Nat.le_of_ble_eq_true rfl) rfl rfl ?_
  refine NV_dup (pc := 129) dX10_init_129 rfl ?_
  refine NV_callN (host := "SentRound") (pc := 130) (d' := 1) (b' := b + 56) (As := []) (rest := [.ref (b + 56), .ref (b)]) (L0 := (.inr (10, [.ref (b + 1), .ref (b + 10), .ref (b + 39), .ref (b + 41), .ref (b + 44), .ref (b + 49), .ref (b + 53), .null, .null])) :: ((((((lX1 E.2.2 (b + 1) ++ lX7 E.2.2 (b + 10) (b + 1)) ++ lX0 E.2.2 (b + 39) (b + 1) (b + 10)) ++ lX2 E.2.2 (b + 41) (b + 1) (b + 10)) ++ lX6 E.2.2 (b + 44) (b + 1) (b + 10)) ++ lX8 E.2.2 (b + 49) (b + 1) (b + 10)) ++ lX3 E.2.2 (b + 53) (b + 1) (b + 10))) (Lc := [.inr (4, [.null, .null, .int 0, .long 0, .int 0])]) (LF := lX4 E.2.2 (b + 56)) (L' := (.inr (10, [.ref (b + 1), .ref (b + 10), .ref (b + 39), .ref (b + 41), .ref (b + 44), .ref (b + 49), .ref (b + 53), .null, .null])) :: (((((((lX1 E.2.2 (b + 1) ++ lX7 E.2.2 (b + 10) (b + 1)) ++ lX0 E.2.2 (b + 39) (b + 1) (b + 10)) ++ lX2 E.2.2 (b + 41) (b + 1) (b + 10)) ++ lX6 E.2.2 (b + 44) (b + 1) (b + 10)) ++ lX8 E.2.2 (b + 49) (b + 1) (b + 10)) ++ lX3 E.2.2 (b + 53) (b + 1) (b + 10)) ++ lX4 E.2.2 (b + 56))) dX10_init_130 (by decide +kernel) im_X4_init ko_X4_init rfl (by decide) rfl rfl (Nat.le_of_ble_eq_true rfl) (Nat.le_of_ble_eq_true rfl) (Nat.le_of_ble_eq_true rfl) (Nat.le_of_ble_eq_true rfl) rfl (nX4 E (b + 56)) rfl rfl ?_
  refine NV_putF (pc := 133) (q0 := 0) (v := .ref (b + 56)) (L' := (.inr (10, [.ref (b + 1), .ref (b + 10), .ref (b + 39), .ref (b + 41), .ref (b + 44), .ref (b + 49), .ref (b + 53), .ref (b + 56), .null])) :: (((((((lX1 E.2.2 (b + 1) ++ lX7 E.2.2 (b + 10) (b + 1)) ++ lX0 E.2.2 (b + 39) (b + 1) (b + 10)) ++ lX2 E.2.2 (b + 41) (b + 1) (b + 10)) ++ lX6 E.2.2 (b + 44) (b + 1) (b + 10)) ++ lX8 E.2.2 (b + 49) (b + 1) (b + 10)) ++ lX3 E.2.2 (b + 53) (b + 1) (b + 10)) ++ lX4 E.2.2 (b + 56))) dX10_init_133 fl_X10_67 pf_X10_7 rfl rfl (Nat.le_of_ble_eq_true rfl) rfl rfl rfl rfl ?_
  refine NV_aload_n (pc := 136) 0 dX10_init_136 rfl ?_
  refine NV_new (pc := 137) (a := b + 59) (L' := (.inr (10, [.ref (b + 1), .ref (b + 10), .ref (b + 39), .ref (b + 41), .ref (b + 44), .ref (b + 49), .ref (b + 53), .ref (b + 56), .null])) :: ((((((((lX1 E.2.2 (b + 1) ++ lX7 E.2.2 (b + 10) (b + 1)) ++ lX0 E.2.2 (b + 39) (b + 1) (b + 10)) ++ lX2 E.2.2 (b + 41) (b + 1) (b + 10)) ++ lX6 E.2.2 (b + 44) (b + 1) (b + 10)) ++ lX8 E.2.2 (b + 49) (b + 1) (b + 10)) ++ lX3 E.2.2 (b + 53) (b + 1) (b + 10)) ++ lX4 E.2.2 (b + 56)) ++ [.inr (9, [.null, .null, .null, .int 0])])) dX10_init_137 cl_X10_71 cO_X9 (Nat.le_of_ble_eq_true rfl) (Nat.le_of_ble_eq_true rfl) rfl rfl ?_
  refine NV_dup (pc := 140) dX10_init_140 rfl ?_
  refine NV_callI (pc := 141) (d' := 1) (b' := b + 59) (As := []) (rest := [.ref (b + 59), .ref (b)]) (L0 := (.inr (10, [.ref (b + 1), .ref (b + 10), .ref (b + 39), .ref (b + 41), .ref (b + 44), .ref (b + 49), .ref (b + 53), .ref (b + 56), .null])) :: (((((((lX1 E.2.2 (b + 1) ++ lX7 E.2.2 (b + 10) (b + 1)) ++ lX0 E.2.2 (b + 39) (b + 1) (b + 10)) ++ lX2 E.2.2 (b + 41) (b + 1) (b + 10)) ++ lX6 E.2.2 (b + 44) (b + 1) (b + 10)) ++ lX8 E.2.2 (b + 49) (b + 1) (b + 10)) ++ lX3 E.2.2 (b + 53) (b + 1) (b + 10)) ++ lX4 E.2.2 (b + 56))) (Lc := [.inr (9, [.null, .null, .null, .int 0])]) (LF := lX9 E.2.2 (b + 59)) (L' := (.inr (10, [.ref (b + 1), .ref (b + 10), .ref (b + 39), .ref (b + 41), .ref (b + 44), .ref (b + 49), .ref (b + 53), .ref (b + 56), .null])) :: ((((((((lX1 E.2.2 (b + 1) ++ lX7 E.2.2 (b + 10) (b + 1)) ++ lX0 E.2.2 (b + 39) (b + 1) (b + 10)) ++ lX2 E.2.2 (b + 41) (b + 1) (b + 10)) ++ lX6 E.2.2 (b + 44) (b + 1) (b + 10)) ++ lX8 E.2.2 (b + 49) (b + 1) (b + 10)) ++ lX3 E.2.2 (b + 53) (b + 1) (b + 10)) ++ lX4 E.2.2 (b + 56)) ++ lX9 E.2.2 (b + 59))) dX10_init_141 ml_X10_73 im_X9_init ko_X9_init rfl (by decide) rfl rfl (Nat.le_of_ble_eq_true rfl) (Nat.le_of_ble_eq_true rfl) (Nat.le_of_ble_eq_true rfl) (Nat.le_of_ble_eq_true rfl) rfl (nX9 E (b + 59)) rfl rfl ?_
  refine NV_putF (pc := 144) (q0 := 0) (v := .ref (b + 59)) (L' := (.inr (10, [.ref (b + 1), .ref (b + 10), .ref (b + 39), .ref (b + 41), .ref (b + 44), .ref (b + 49), .ref (b + 53), .ref (b + 56), .ref (b + 59)])) :: ((((((((lX1 E.2.2 (b + 1) ++ lX7 E.2.2 (b + 10) (b + 1)) ++ lX0 E.2.2 (b + 39) (b + 1) (b + 10)) ++ lX2 E.2.2 (b + 41) (b + 1) (b + 10)) ++ lX6 E.2.2 (b + 44) (b + 1) (b + 10)) ++ lX8 E.2.2 (b + 49) (b + 1) (b + 10)) ++ lX3 E.2.2 (b + 53) (b + 1) (b + 10)) ++ lX4 E.2.2 (b + 56)) ++ lX9 E.2.2 (b + 59))) dX10_init_144 fl_X10_74 pf_X10_8 rfl rfl (Nat.le_of_ble_eq_true rfl) rfl rfl rfl rfl ?_
  exact NV_ret (pc := 147) dX10_init_147 rfl (Nat.le_of_ble_eq_true rfl) (Nat.le_of_ble_eq_true rfl) rfl
def lX11 (cA : Nat → ClassId) (b : Nat) : List va_E := [.inr (11, [.int 0, .int 0, .ref (b + 1), .ref (b + 2), .int 0, .ref (b + 3), .ref (b + 4), .ref (b + 5), .ref (b + 6), .ref (b + 7), .ref (b + 8), .int (-1), .int 2, .int 0, .ref (b + 9), .ref (b + 10), .ref (b + 11), .ref (b + 12), .ref (b + 13), .ref (b + 14), .ref (b + 15), .long 0, .ref (b + 16), .int 0, .ref (b + 17), .long 0, .long 0, .long 0, .long 0, .int 0, .ref (b + 18), .int 0, .int 0, .long 0, .long 0, .long 0, .ref (b + 19), .ref (b + 20), .ref (b + 21), .ref (b + 22), .ref (b + 23), .int 0]), .inl (cA 0, (14, .inl fun _ => 0)), .inl (cA 0, (14, .inl fun _ => 0)), .inl (cA 0, (150, .inl fun _ => 0)), .inl (cA 0, (150, .inl fun _ => 0)), .inl (cA 0, (150, .inl fun _ => 0)), .inl (cA 0, (150, .inl fun _ => 0)), .inl (cA 0, (150, .inl fun _ => 0)), .inl (cA 0, (150, .inl fun _ => 0)), .inl (cA 0, (4, .inl fun _ => 0)), .inl (cA 0, (600, .inl fun _ => 0)), .inl (cA 1, (600, .inr (.inl fun _ => 0))), .inl (cA 0, (600, .inl fun _ => 0)), .inl (cA 0, (56, .inl fun _ => 0)), .inl (cA 1, (56, .inr (.inl fun _ => 0))), .inl (cA 0, (14, .inl fun _ => 0)), .inl (cA 1, (14, .inr (.inl fun _ => 0))), .inl (cA 1, (105, .inr (.inl fun _ => 0))), .inl (cA 0, (60, .inl fun _ => 0)), .inl (cA 2, (4, .inl fun _ => 0)), .inl (cA 0, (4, .inl fun _ => 0)), .inl (cA 0, (4, .inl fun _ => 0)), .inl (cA 0, (240, .inl fun _ => 0)), .inl (cA 0, (60, .inl fun _ => 0))]
set_option maxHeartbeats 4000000 in
set_option maxRecDepth 100000 in
theorem nX11 (E : Nv) (b : Nat) : NV E 0 mX11_init (b, lX11 E.2.2 b, 23, 3349) 0 (lv_args 0 [.ref b]) [] [.inr (11, [.int 0, .int 0, .null, .null, .int 0, .null, .null, .null, .null, .null, .null, .int 0, .int 0, .int 0, .null, .null, .null, .null, .null, .null, .null, .long 0, .null, .int 0, .null, .long 0, .long 0, .long 0, .long 0, .int 0, .null, .int 0, .int 0, .long 0, .long 0, .long 0, .null, .null, .null, .null, .null, .int 0])] 0 0 := by
  show NV E 0 mX11_init (b, lX11 E.2.2 b, 23, 3349) 0 [(0, .ref b)] [] [.inr (11, [.int 0, .int 0, .null, .null, .int 0, .null, .null, .null, .null, .null, .null, .int 0, .int 0, .int 0, .null, .null, .null, .null, .null, .null, .null, .long 0, .null, .int 0, .null, .long 0, .long 0, .long 0, .long 0, .int 0, .null, .int 0, .int 0, .long 0, .long 0, .long 0, .null, .null, .null, .null, .null, .int 0])] 0 0
  refine NV_aload_n (pc := 0) 0 dX11_init_0 rfl ?_
  refine NV_obj (pc := 1) dX11_init_1 ml_X11_3 ?_
  refine NV_aload_n (pc := 4) 0 dX11_init_4 rfl ?_
  refine NV_bipush (pc := 5) (v := 14) dX11_init_5 (by decide) ?_
  refine NV_newI (pc := 7) (N := 14) (a := b + 1) (L' := [.inr (11, [.int 0, .int 0, .null, .null, .int 0, .null, .null, .null, .null, .null, .null, .int 0, .int 0, .int 0, .null, .null, .null, .null, .null, .null, .null, .long 0, .null, .int 0, .null, .long 0, .long 0, .long 0, .long 0, .int 0, .null, .int 0, .int 0, .long 0, .long 0, .long 0, .null, .null, .null, .null, .null, .int 0]), .inl (E.2.2 0, (14, .inl fun _ => 0))]) dX11_init_7 aw_I (by decide) (by decide) (by decide) (Nat.le_of_ble_eq_true rfl) (Nat.le_of_ble_eq_true rfl) rfl rfl ?_
  refine NV_putF (pc := 9) (q0 := 0) (v := .ref (b + 1)) (L' := [.inr (11, [.int 0, .int 0, .ref (b + 1), .null, .int 0, .null, .null, .null, .null, .null, .null, .int 0, .int 0, .int 0, .null, .null, .null, .null, .null, .null, .null, .long 0, .null, .int 0, .null, .long 0, .long 0, .long 0, .long 0, .int 0, .null, .int 0, .int 0, .long 0, .long 0, .long 0, .null, .null, .null, .null, .null, .int 0]), .inl (E.2.2 0, (14, .inl fun _ => 0))]) dX11_init_9 fl_X11_9 pf_X11_2 rfl rfl (Nat.le_of_ble_eq_true rfl) rfl rfl rfl rfl ?_
  refine NV_aload_n (pc := 12) 0 dX11_init_12 rfl ?_
  refine NV_bipush (pc := 13) (v := 14) dX11_init_13 (by decide) ?_
  refine NV_newI (pc := 15) (N := 14) (a := b + 2) (L' := [.inr (11, [.int 0, .int 0, .ref (b + 1), .null, .int 0, .null, .null, .null, .null, .null, .null, .int 0, .int 0, .int 0, .null, .null, .null, .null, .null, .null, .null, .long 0, .null, .int 0, .null, .long 0, .long 0, .long 0, .long 0, .int 0, .null, .int 0, .int 0, .long 0, .long 0, .long 0, .null, .null, .null, .null, .null, .int 0]), .inl (E.2.2 0, (14, .inl fun _ => 0)), .inl (E.2.2 0, (14, .inl fun _ => 0))]) dX11_init_15 aw_I (by decide) (by decide) (by decide) (Nat.le_of_ble_eq_true rfl) (Nat.le_of_ble_eq_true rfl) rfl rfl ?_
  refine NV_putF (pc := 17) (q0 := 0) (v := .ref (b + 2)) (L' := [.inr (11, [.int 0, .int 0, .ref (b + 1), .ref (b + 2), .int 0, .null, .null, .null, .null, .null, .null, .int 0, .int 0, .int 0, .null, .null, .null, .null, .null, .null, .null, .long 0, .null, .int 0, .null, .long 0, .long 0, .long 0, .long 0, .int 0, .null, .int 0, .int 0, .long 0, .long 0, .long 0, .null, .null, .null, .null, .null, .int 0]), .inl (E.2.2 0, (14, .inl fun _ => 0)), .inl (E.2.2 0, (14, .inl fun _ => 0))]) dX11_init_17 fl_X11_13 pf_X11_3 rfl rfl (Nat.le_of_ble_eq_true rfl) rfl rfl rfl rfl ?_
  refine NV_aload_n (pc := 20) 0 dX11_init_20 rfl ?_
  refine NV_sipush (pc := 21) (v := 150) dX11_init_21 (by decide) ?_
  refine NV_newI (pc := 24) (N := 150) (a := b + 3) (L' := [.inr (11, [.int 0, .int 0, .ref (b + 1), .ref (b + 2), .int 0, .null, .null, .null, .null, .null, .null, .int 0, .int 0, .int 0, .null, .null, .null, .null, .null, .null, .null, .long 0, .null, .int 0, .null, .long 0, .long 0, .long 0, .long 0, .int 0, .null, .int 0, .int 0, .long 0, .long 0, .long 0, .null, .null, .null, .null, .null, .int 0]), .inl (E.2.2 0, (14, .inl fun _ => 0)), .inl (E.2.2 0, (14, .inl fun _ => 0)), .inl (E.2.2 0, (150, .inl fun _ => 0))]) dX11_init_24 aw_I (by decide) (by decide) (by decide) (Nat.le_of_ble_eq_true rfl) (Nat.le_of_ble_eq_true rfl) rfl rfl ?_
  refine NV_putF (pc := 26) (q0 := 0) (v := .ref (b + 3)) (L' := [.inr (11, [.int 0, .int 0, .ref (b + 1), .ref (b + 2), .int 0, .ref (b + 3), .null, .null, .null, .null, .null, .int 0, .int 0, .int 0, .null, .null, .null, .null, .null, .null, .null, .long 0, .null, .int 0, .null, .long 0, .long 0, .long 0, .long 0, .int 0, .null, .int 0, .int 0, .long 0, .long 0, .long 0, .null, .null, .null, .null, .null, .int 0]), .inl (E.2.2 0, (14, .inl fun _ => 0)), .inl (E.2.2 0, (14, .inl fun _ => 0)), .inl (E.2.2 0, (150, .inl fun _ => 0))]) dX11_init_26 fl_X11_16 pf_X11_5 rfl rfl (Nat.le_of_ble_eq_true rfl) rfl rfl rfl rfl ?_
  refine NV_aload_n (pc := 29) 0 dX11_init_29 rfl ?_
  refine NV_sipush (pc := 30) (v := 150) dX11_init_30 (by decide) ?_
  refine NV_newI (pc := 33) (N := 150) (a := b + 4) (L' := [.inr (11, [.int 0, .int 0, .ref (b + 1), .ref (b + 2), .int 0, .ref (b + 3), .null, .null, .null, .null, .null, .int 0, .int 0, .int 0, .null, .null, .null, .null, .null, .null, .null, .long 0, .null, .int 0, .null, .long 0, .long 0, .long 0, .long 0, .int 0, .null, .int 0, .int 0, .long 0, .long 0, .long 0, .null, .null, .null, .null, .null, .int 0]), .inl (E.2.2 0, (14, .inl fun _ => 0)), .inl (E.2.2 0, (14, .inl fun _ => 0)), .inl (E.2.2 0, (150, .inl fun _ => 0)), .inl (E.2.2 0, (150, .inl fun _ => 0))]) dX11_init_33 aw_I (by decide) (by decide) (by decide) (Nat.le_of_ble_eq_true rfl) (Nat.le_of_ble_eq_true rfl) rfl rfl ?_
  refine NV_putF (pc := 35) (q0 := 0) (v := .ref (b + 4)) (L' := [.inr (11, [.int 0, .int 0, .ref (b + 1), .ref (b + 2), .int 0, .ref (b + 3), .ref (b + 4), .null, .null, .null, .null, .int 0, .int 0, .int 0, .null, .null, .null, .null, .null, .null, .null, .long 0, .null, .int 0, .null, .long 0, .long 0, .long 0, .long 0, .int 0, .null, .int 0, .int 0, .long 0, .long 0, .long 0, .null, .null, .null, .null, .null, .int 0]), .inl (E.2.2 0, (14, .inl fun _ => 0)), .inl (E.2.2 0, (14, .inl fun _ => 0)), .inl (E.2.2 0, (150, .inl fun _ => 0)), .inl (E.2.2 0, (150, .inl fun _ => 0))]) dX11_init_35 fl_X11_19 pf_X11_6 rfl rfl (Nat.le_of_ble_eq_true rfl) rfl rfl rfl rfl ?_
  refine NV_aload_n (pc := 38) 0 dX11_init_38 rfl ?_
  refine NV_sipush (pc := 39) (v := 150) dX11_init_39 (by decide) ?_
  refine NV_newI (pc := 42) (N := 150) (a := b + 5) (L' := [.inr (11, [.int 0, .int 0, .ref (b + 1), .ref (b + 2), .int 0, .ref (b + 3), .ref (b + 4), .null, .null, .null, .null, .int 0, .int 0, .int 0, .null, .null, .null, .null, .null, .null, .null, .long 0, .null, .int 0, .null, .long 0, .long 0, .long 0, .long 0, .int 0, .null, .int 0, .int 0, .long 0, .long 0, .long 0, .null, .null, .null, .null, .null, .int 0]), .inl (E.2.2 0, (14, .inl fun _ => 0)), .inl (E.2.2 0, (14, .inl fun _ => 0)), .inl (E.2.2 0, (150, .inl fun _ => 0)), .inl (E.2.2 0, (150, .inl fun _ => 0)), .inl (E.2.2 0, (150, .inl fun _ => 0))]) dX11_init_42 aw_I (by decide) (by decide) (by decide) (Nat.le_of_ble_eq_true rfl) (Nat.le_of_ble_eq_true rfl) rfl rfl ?_
  refine NV_putF (pc := 44) (q0 := 0) (v := .ref (b + 5)) (L' := [.inr (11, [.int 0, .int 0, .ref (b + 1), .ref (b + 2), .int 0, .ref (b + 3), .ref (b + 4), .ref (b + 5), .null, .null, .null, .int 0, .int 0, .int 0, .null, .null, .null, .null, .null, .null, .null, .long 0, .null, .int 0, .null, .long 0, .long 0, .long 0, .long 0, .int 0, .null, .int 0, .int 0, .long 0, .long 0, .long 0, .null, .null, .null, .null, .null, .int 0]), .inl (E.2.2 0, (14, .inl fun _ => 0)), .inl (E.2.2 0, (14, .inl fun _ => 0)), .inl (E.2.2 0, (150, .inl fun _ => 0)), .inl (E.2.2 0, (150, .inl fun _ => 0)), .inl (E.2.2 0, (150, .inl fun _ => 0))]) dX11_init_44 fl_X11_22 pf_X11_7 rfl rfl (Nat.le_of_ble_eq_true rfl) rfl rfl rfl rfl ?_
  refine NV_aload_n (pc := 47) 0 dX11_init_47 rfl ?_
  refine NV_sipush (pc := 48) (v := 150) dX11_init_48 (by decide) ?_
  refine NV_newI (pc := 51) (N := 150) (a := b + 6) (L' := [.inr (11, [.int 0, .int 0, .ref (b + 1), .ref (b + 2), .int 0, .ref (b + 3), .ref (b + 4), .ref (b + 5), .null, .null, .null, .int 0, .int 0, .int 0, .null, .null, .null, .null, .null, .null, .null, .long 0, .null, .int 0, .null, .long 0, .long 0, .long 0, .long 0, .int 0, .null, .int 0, .int 0, .long 0, .long 0, .long 0, .null, .null, .null, .null, .null, .int 0]), .inl (E.2.2 0, (14, .inl fun _ => 0)), .inl (E.2.2 0, (14, .inl fun _ => 0)), .inl (E.2.2 0, (150, .inl fun _ => 0)), .inl (E.2.2 0, (150, .inl fun _ => 0)), .inl (E.2.2 0, (150, .inl fun _ => 0)), .inl (E.2.2 0, (150, .inl fun _ => 0))]) dX11_init_51 aw_I (by decide) (by decide) (by decide) (Nat.le_of_ble_eq_true rfl) (Nat.le_of_ble_eq_true rfl) rfl rfl ?_
  refine NV_putF (pc := 53) (q0 := 0) (v := .ref (b + 6)) (L' := [.inr (11, [.int 0, .int 0, .ref (b + 1), .ref (b + 2), .int 0, .ref (b + 3), .ref (b + 4), .ref (b + 5), .ref (b + 6), .null, .null, .int 0, .int 0, .int 0, .null, .null, .null, .null, .null, .null, .null, .long 0, .null, .int 0, .null, .long 0, .long 0, .long 0, .long 0, .int 0, .null, .int 0, .int 0, .long 0, .long 0, .long 0, .null, .null, .null, .null, .null, .int 0]), .inl (E.2.2 0, (14, .inl fun _ => 0)), .inl (E.2.2 0, (14, .inl fun _ => 0)), .inl (E.2.2 0, (150, .inl fun _ => 0)), .inl (E.2.2 0, (150, .inl fun _ => 0)), .inl (E.2.2 0, (150, .inl fun _ => 0)), .inl (E.2.2 0, (150, .inl fun _ => 0))]) dX11_init_53 fl_X11_25 pf_X11_8 rfl rfl (Nat.le_of_ble_eq_true rfl) rfl rfl rfl rfl ?_
  refine NV_aload_n (pc := 56) 0 dX11_init_56 rfl ?_
  refine NV_sipush (pc := 57) (v := 150) dX11_init_57 (by decide) ?_
  refine NV_newI (pc := 60) (N := 150) (a := b + 7) (L' := [.inr (11, [.int 0, .int 0, .ref (b + 1), .ref (b + 2), .int 0, .ref (b + 3), .ref (b + 4), .ref (b + 5), .ref (b + 6), .null, .null, .int 0, .int 0, .int 0, .null, .null, .null, .null, .null, .null, .null, .long 0, .null, .int 0, .null, .long 0, .long 0, .long 0, .long 0, .int 0, .null, .int 0, .int 0, .long 0, .long 0, .long 0, .null, .null, .null, .null, .null, .int 0]), .inl (E.2.2 0, (14, .inl fun _ => 0)), .inl (E.2.2 0, (14, .inl fun _ => 0)), .inl (E.2.2 0, (150, .inl fun _ => 0)), .inl (E.2.2 0, (150, .inl fun _ => 0)), .inl (E.2.2 0, (150, .inl fun _ => 0)), .inl (E.2.2 0, (150, .inl fun _ => 0)), .inl (E.2.2 0, (150, .inl fun _ => 0))]) dX11_init_60 aw_I (by decide) (by decide) (by decide) (Nat.le_of_ble_eq_true rfl) (Nat.le_of_ble_eq_true rfl) rfl rfl ?_
  refine NV_putF (pc := 62) (q0 := 0) (v := .ref (b + 7)) (L' := [.inr (11, [.int 0, .int 0, .ref (b + 1), .ref (b + 2), .int 0, .ref (b + 3), .ref (b + 4), .ref (b + 5), .ref (b + 6), .ref (b + 7), .null, .int 0, .int 0, .int 0, .null, .null, .null, .null, .null, .null, .null, .long 0, .null, .int 0, .null, .long 0, .long 0, .long 0, .long 0, .int 0, .null, .int 0, .int 0, .long 0, .long 0, .long 0, .null, .null, .null, .null, .null, .int 0]), .inl (E.2.2 0, (14, .inl fun _ => 0)), .inl (E.2.2 0, (14, .inl fun _ => 0)), .inl (E.2.2 0, (150, .inl fun _ => 0)), .inl (E.2.2 0, (150, .inl fun _ => 0)), .inl (E.2.2 0, (150, .inl fun _ => 0)), .inl (E.2.2 0, (150, .inl fun _ => 0)), .inl (E.2.2 0, (150, .inl fun _ => 0))]) dX11_init_62 fl_X11_28 pf_X11_9 rfl rfl (Nat.le_of_ble_eq_true rfl) rfl rfl rfl rfl ?_
  refine NV_aload_n (pc := 65) 0 dX11_init_65 rfl ?_
  refine NV_sipush (pc := 66) (v := 150) dX11_init_66 (by decide) ?_
  refine NV_newI (pc := 69) (N := 150) (a := b + 8) (L' := [.inr (11, [.int 0, .int 0, .ref (b + 1), .ref (b + 2), .int 0, .ref (b + 3), .ref (b + 4), .ref (b + 5), .ref (b + 6), .ref (b + 7), .null, .int 0, .int 0, .int 0, .null, .null, .null, .null, .null, .null, .null, .long 0, .null, .int 0, .null, .long 0, .long 0, .long 0, .long 0, .int 0, .null, .int 0, .int 0, .long 0, .long 0, .long 0, .null, .null, .null, .null, .null, .int 0]), .inl (E.2.2 0, (14, .inl fun _ => 0)), .inl (E.2.2 0, (14, .inl fun _ => 0)), .inl (E.2.2 0, (150, .inl fun _ => 0)), .inl (E.2.2 0, (150, .inl fun _ => 0)), .inl (E.2.2 0, (150, .inl fun _ => 0)), .inl (E.2.2 0, (150, .inl fun _ => 0)), .inl (E.2.2 0, (150, .inl fun _ => 0)), .inl (E.2.2 0, (150, .inl fun _ => 0))]) dX11_init_69 aw_I (by decide) (by decide) (by decide) (Nat.le_of_ble_eq_true rfl) (Nat.le_of_ble_eq_true rfl) rfl rfl ?_
  refine NV_putF (pc := 71) (q0 := 0) (v := .ref (b + 8)) (L' := [.inr (11, [.int 0, .int 0, .ref (b + 1), .ref (b + 2), .int 0, .ref (b + 3), .ref (b + 4), .ref (b + 5), .ref (b + 6), .ref (b + 7), .ref (b + 8), .int 0, .int 0, .int 0, .null, .null, .null, .null, .null, .null, .null, .long 0, .null, .int 0, .null, .long 0, .long 0, .long 0, .long 0, .int 0, .null, .int 0, .int 0, .long 0, .long 0, .long 0, .null, .null, .null, .null, .null, .int 0]), .inl (E.2.2 0, (14, .inl fun _ => 0)), .inl (E.2.2 0, (14, .inl fun _ => 0)), .inl (E.2.2 0, (150, .inl fun _ => 0)), .inl (E.2.2 0, (150, .inl fun _ => 0)), .inl (E.2.2 0, (150, .inl fun _ => 0)), .inl (E.2.2 0, (150, .inl fun _ => 0)), .inl (E.2.2 0, (150, .inl fun _ => 0)), .inl (E.2.2 0, (150, .inl fun _ => 0))]) dX11_init_71 fl_X11_31 pf_X11_10 rfl rfl (Nat.le_of_ble_eq_true rfl) rfl rfl rfl rfl ?_
  refine NV_aload_n (pc := 74) 0 dX11_init_74 rfl ?_
  refine NV_iconst (pc := 75) (v := -1) dX11_init_75 (by decide) ?_
  refine NV_putN (pc := 76) (q0 := 0) (v := .int (-1)) (L' := [.inr (11, [.int 0, .int 0, .ref (b + 1), .ref (b + 2), .int 0, .ref (b + 3), .ref (b + 4), .ref (b + 5), .ref (b + 6), .ref (b + 7), .ref (b + 8), .int (-1), .int 0, .int 0, .null, .null, .null, .null, .null, .null, .null, .long 0, .null, .int 0, .null, .long 0, .long 0, .long 0, .long 0, .int 0, .null, .int 0, .int 0, .long 0, .long 0, .long 0, .null, .null, .null, .null, .null, .int 0]), .inl (E.2.2 0, (14, .inl fun _ => 0)), .inl (E.2.2 0, (14, .inl fun _ => 0)), .inl (E.2.2 0, (150, .inl fun _ => 0)), .inl (E.2.2 0, (150, .inl fun _ => 0)), .inl (E.2.2 0, (150, .inl fun _ => 0)), .inl (E.2.2 0, (150, .inl fun _ => 0)), .inl (E.2.2 0, (150, .inl fun _ => 0)), .inl (E.2.2 0, (150, .inl fun _ => 0))]) dX11_init_76 fl_X11_34 po_X11_11 rfl (Nat.le_of_ble_eq_true rfl) rfl rfl rfl rfl ?_
  refine NV_aload_n (pc := 79) 0 dX11_init_79 rfl ?_
  refine NV_iconst (pc := 80) (v := 2) dX11_init_80 (by decide) ?_
  refine NV_putN (pc := 81) (q0 := 0) (v := .int 2) (L' := [.inr (11, [.int 0, .int 0, .ref (b + 1), .ref (b + 2), .int 0, .ref (b + 3), .ref (b + 4), .ref (b + 5), .ref (b + 6), .ref (b + 7), .ref (b + 8), .int (-1), .int 2, .int 0, .null, .null, .null, .null, .null, .null, .null, .long 0, .null, .int 0, .null, .long 0, .long 0, .long 0, .long 0, .int 0, .null, .int 0, .int 0, .long 0, .long 0, .long 0, .null, .null, .null, .null, .null, .int 0]), .inl (E.2.2 0, (14, .inl fun _ => 0)), .inl (E.2.2 0, (14, .inl fun _ => 0)), .inl (E.2.2 0, (150, .inl fun _ => 0)), .inl (E.2.2 0, (150, .inl fun _ => 0)), .inl (E.2.2 0, (150, .inl fun _ => 0)), .inl (E.2.2 0, (150, .inl fun _ => 0)), .inl (E.2.2 0, (150, .inl fun _ => 0)), .inl (E.2.2 0, (150, .inl fun _ => 0))]) dX11_init_81 fl_X11_38 po_X11_12 rfl (Nat.le_of_ble_eq_true rfl) rfl rfl rfl rfl ?_
  refine NV_aload_n (pc := 84) 0 dX11_init_84 rfl ?_
  refine NV_iconst (pc := 85) (v := 4) dX11_init_85 (by decide) ?_
  refine NV_newI (pc := 86) (N := 4) (a := b + 9) (L' := [.inr (11, [.int 0, .int 0, .ref (b + 1), .ref (b + 2), .int 0, .ref (b + 3), .ref (b + 4), .ref (b + 5), .ref (b + 6), .ref (b + 7), .ref (b + 8), .int (-1), .int 2, .int 0, .null, .null, .null, .null, .null, .null, .null, .long 0, .null, .int 0, .null, .long 0, .long 0, .long 0, .long 0, .int 0, .null, .int 0, .int 0, .long 0, .long 0, .long 0, .null, .null, .null, .null, .null, .int 0]), .inl (E.2.2 0, (14, .inl fun _ => 0)), .inl (E.2.2 0, (14, .inl fun _ => 0)), .inl (E.2.2 0, (150, .inl fun _ => 0)), .inl (E.2.2 0, (150, .inl fun _ => 0)), .inl (E.2.2 0, (150, .inl fun _ => 0)), .inl (E.2.2 0, (150, .inl fun _ => 0)), .inl (E.2.2 0, (150, .inl fun _ => 0)), .inl (E.2.2 0, (150, .inl fun _ => 0)), .inl (E.2.2 0, (4, .inl fun _ => 0))]) dX11_init_86 aw_I (by decide) (by decide) (by decide) (Nat.le_of_ble_eq_true rfl) (Nat.le_of_ble_eq_true rfl) rfl rfl ?_
  refine NV_putF (pc := 88) (q0 := 0) (v := .ref (b + 9)) (L' := [.inr (11, [.int 0, .int 0, .ref (b + 1), .ref (b + 2), .int 0, .ref (b + 3), .ref (b + 4), .ref (b + 5), .ref (b + 6), .ref (b + 7), .ref (b + 8), .int (-1), .int 2, .int 0, .ref (b + 9), .null, .null, .null, .null, .null, .null, .long 0, .null, .int 0, .null, .long 0, .long 0, .long 0, .long 0, .int 0, .null, .int 0, .int 0, .long 0, .long 0, .long 0, .null, .null, .null, .null, .null, .int 0]), .inl (E.2.2 0, (14, .inl fun _ => 0)), .inl (E.2.2 0, (14, .inl fun _ => 0)), .inl (E.2.2 0, (150, .inl fun _ => 0)), .inl (E.2.2 0, (150, .inl fun _ => 0)), .inl (E.2.2 0, (150, .inl fun _ => 0)), .inl (E.2.2 0, (150, .inl fun _ => 0)), .inl (E.2.2 0, (150, .inl fun _ => 0)), .inl (E.2.2 0, (150, .inl fun _ => 0)), .inl (E.2.2 0, (4, .inl fun _ => 0))]) dX11_init_88 fl_X11_41 pf_X11_14 rfl rfl (Nat.le_of_ble_eq_true rfl) rfl rfl rfl rfl ?_
  refine NV_aload_n (pc := 91) 0 dX11_init_91 rfl ?_
  refine NV_sipush (pc := 92) (v := 600) dX11_init_92 (by decide) ?_
  refine NV_newI (pc := 95) (N := 600) (a := b + 10) (L' := [.inr (11, [.int 0, .int 0, .ref (b + 1), .ref (b + 2), .int 0, .ref (b + 3), .ref (b + 4), .ref (b + 5), .ref (b + 6), .ref (b + 7), .ref (b + 8), .int (-1), .int 2, .int 0, .ref (b + 9), .null, .null, .null, .null, .null, .null, .long 0, .null, .int 0, .null, .long 0, .long 0, .long 0, .long 0, .int 0, .null, .int 0, .int 0, .long 0, .long 0, .long 0, .null, .null, .null, .null, .null, .int 0]), .inl (E.2.2 0, (14, .inl fun _ => 0)), .inl (E.2.2 0, (14, .inl fun _ => 0)), .inl (E.2.2 0, (150, .inl fun _ => 0)), .inl (E.2.2 0, (150, .inl fun _ => 0)), .inl (E.2.2 0, (150, .inl fun _ => 0)), .inl (E.2.2 0, (150, .inl fun _ => 0)), .inl (E.2.2 0, (150, .inl fun _ => 0)), .inl (E.2.2 0, (150, .inl fun _ => 0)), .inl (E.2.2 0, (4, .inl fun _ => 0)), .inl (E.2.2 0, (600, .inl fun _ => 0))]) dX11_init_95 aw_I (by decide) (by decide) (by decide) (Nat.le_of_ble_eq_true rfl) (Nat.le_of_ble_eq_true rfl) rfl rfl ?_
  refine NV_putF (pc := 97) (q0 := 0) (v := .ref (b + 10)) (L' := [.inr (11, [.int 0, .int 0, .ref (b + 1), .ref (b + 2), .int 0, .ref (b + 3), .ref (b + 4), .ref (b + 5), .ref (b + 6), .ref (b + 7), .ref (b + 8), .int (-1), .int 2, .int 0, .ref (b + 9), .ref (b + 10), .null, .null, .null, .null, .null, .long 0, .null, .int 0, .null, .long 0, .long 0, .long 0, .long 0, .int 0, .null, .int 0, .int 0, .long 0, .long 0, .long 0, .null, .null, .null, .null, .null, .int 0]), .inl (E.2.2 0, (14, .inl fun _ => 0)), .inl (E.2.2 0, (14, .inl fun _ => 0)), .inl (E.2.2 0, (150, .inl fun _ => 0)), .inl (E.2.2 0, (150, .inl fun _ => 0)), .inl (E.2.2 0, (150, .inl fun _ => 0)), .inl (E.2.2 0, (150, .inl fun _ => 0)), .inl (E.2.2 0, (150, .inl fun _ => 0)), .inl (E.2.2 0, (150, .inl fun _ => 0)), .inl (E.2.2 0, (4, .inl fun _ => 0)), .inl (E.2.2 0, (600, .inl fun _ => 0))]) dX11_init_97 fl_X11_44 pf_X11_15 rfl rfl (Nat.le_of_ble_eq_true rfl) rfl rfl rfl rfl ?_
  refine NV_aload_n (pc := 100) 0 dX11_init_100 rfl ?_
  refine NV_sipush (pc := 101) (v := 600) dX11_init_101 (by decide) ?_
  refine NV_newJ (pc := 104) (N := 600) (a := b + 11) (L' := [.inr (11, [.int 0, .int 0, .ref (b + 1), .ref (b + 2), .int 0, .ref (b + 3), .ref (b + 4), .ref (b + 5), .ref (b + 6), .ref (b + 7), .ref (b + 8), .int (-1), .int 2, .int 0, .ref (b + 9), .ref (b + 10), .null, .null, .null, .null, .null, .long 0, .null, .int 0, .null, .long 0, .long 0, .long 0, .long 0, .int 0, .null, .int 0, .int 0, .long 0, .long 0, .long 0, .null, .null, .null, .null, .null, .int 0]), .inl (E.2.2 0, (14, .inl fun _ => 0)), .inl (E.2.2 0, (14, .inl fun _ => 0)), .inl (E.2.2 0, (150, .inl fun _ => 0)), .inl (E.2.2 0, (150, .inl fun _ => 0)), .inl (E.2.2 0, (150, .inl fun _ => 0)), .inl (E.2.2 0, (150, .inl fun _ => 0)), .inl (E.2.2 0, (150, .inl fun _ => 0)), .inl (E.2.2 0, (150, .inl fun _ => 0)), .inl (E.2.2 0, (4, .inl fun _ => 0)), .inl (E.2.2 0, (600, .inl fun _ => 0)), .inl (E.2.2 1, (600, .inr (.inl fun _ => 0)))]) dX11_init_104 aw_J (by decide) (by decide) (by decide) (Nat.le_of_ble_eq_true rfl) (Nat.le_of_ble_eq_true rfl) rfl rfl ?_
  refine NV_putF (pc := 106) (q0 := 0) (v := .ref (b + 11)) (L' := [.inr (11, [.int 0, .int 0, .ref (b + 1), .ref (b + 2), .int 0, .ref (b + 3), .ref (b + 4), .ref (b + 5), .ref (b + 6), .ref (b + 7), .ref (b + 8), .int (-1), .int 2, .int 0, .ref (b + 9), .ref (b + 10), .ref (b + 11), .null, .null, .null, .null, .long 0, .null, .int 0, .null, .long 0, .long 0, .long 0, .long 0, .int 0, .null, .int 0, .int 0, .long 0, .long 0, .long 0, .null, .null, .null, .null, .null, .int 0]), .inl (E.2.2 0, (14, .inl fun _ => 0)), .inl (E.2.2 0, (14, .inl fun _ => 0)), .inl (E.2.2 0, (150, .inl fun _ => 0)), .inl (E.2.2 0, (150, .inl fun _ => 0)), .inl (E.2.2 0, (150, .inl fun _ => 0)), .inl (E.2.2 0, (150, .inl fun _ => 0)), .inl (E.2.2 0, (150, .inl fun _ => 0)), .inl (E.2.2 0, (150, .inl fun _ => 0)), .inl (E.2.2 0, (4, .inl fun _ => 0)), .inl (E.2.2 0, (600, .inl fun _ => 0)), .inl (E.2.2 1, (600, .inr (.inl fun _ => 0)))]) dX11_init_106 fl_X11_47 pf_X11_16 rfl rfl (Nat.le_of_ble_eq_true rfl) rfl rfl rfl rfl ?_
  refine NV_aload_n (pc := 109) 0 dX11_init_109 rfl ?_
  refine NV_sipush (pc := 110) (v := 600) dX11_init_110 (by decide) ?_
  refine NV_newI (pc := 113) (N := 600) (a := b + 12) (L' := [.inr (11, [.int 0, .int 0, .ref (b + 1), .ref (b + 2), .int 0, .ref (b + 3), .ref (b + 4), .ref (b + 5), .ref (b + 6), .ref (b + 7), .ref (b + 8), .int (-1), .int 2, .int 0, .ref (b + 9), .ref (b + 10), .ref (b + 11), .null, .null, .null, .null, .long 0, .null, .int 0, .null, .long 0, .long 0, .long 0, .long 0, .int 0, .null, .int 0, .int 0, .long 0, .long 0, .long 0, .null, .null, .null, .null, .null, .int 0]), .inl (E.2.2 0, (14, .inl fun _ => 0)), .inl (E.2.2 0, (14, .inl fun _ => 0)), .inl (E.2.2 0, (150, .inl fun _ => 0)), .inl (E.2.2 0, (150, .inl fun _ => 0)), .inl (E.2.2 0, (150, .inl fun _ => 0)), .inl (E.2.2 0, (150, .inl fun _ => 0)), .inl (E.2.2 0, (150, .inl fun _ => 0)), .inl (E.2.2 0, (150, .inl fun _ => 0)), .inl (E.2.2 0, (4, .inl fun _ => 0)), .inl (E.2.2 0, (600, .inl fun _ => 0)), .inl (E.2.2 1, (600, .inr (.inl fun _ => 0))), .inl (E.2.2 0, (600, .inl fun _ => 0))]) dX11_init_113 aw_I (by decide) (by decide) (by decide) (Nat.le_of_ble_eq_true rfl) (Nat.le_of_ble_eq_true rfl) rfl rfl ?_
  refine NV_putF (pc := 115) (q0 := 0) (v := .ref (b + 12)) (L' := [.inr (11, [.int 0, .int 0, .ref (b + 1), .ref (b + 2), .int 0, .ref (b + 3), .ref (b + 4), .ref (b + 5), .ref (b + 6), .ref (b + 7), .ref (b + 8), .int (-1), .int 2, .int 0, .ref (b + 9), .ref (b + 10), .ref (b + 11), .ref (b + 12), .null, .null, .null, .long 0, .null, .int 0, .null, .long 0, .long 0, .long 0, .long 0, .int 0, .null, .int 0, .int 0, .long 0, .long 0, .long 0, .null, .null, .null, .null, .null, .int 0]), .inl (E.2.2 0, (14, .inl fun _ => 0)), .inl (E.2.2 0, (14, .inl fun _ => 0)), .inl (E.2.2 0, (150, .inl fun _ => 0)), .inl (E.2.2 0, (150, .inl fun _ => 0)), .inl (E.2.2 0, (150, .inl fun _ => 0)), .inl (E.2.2 0, (150, .inl fun _ => 0)), .inl (E.2.2 0, (150, .inl fun _ => 0)), .inl (E.2.2 0, (150, .inl fun _ => 0)), .inl (E.2.2 0, (4, .inl fun _ => 0)), .inl (E.2.2 0, (600, .inl fun _ => 0)), .inl (E.2.2 1, (600, .inr (.inl fun _ => 0))), .inl (E.2.2 0, (600, .inl fun _ => 0))]) dX11_init_115 fl_X11_51 pf_X11_17 rfl rfl (Nat.le_of_ble_eq_true rfl) rfl rfl rfl rfl ?_
  refine NV_aload_n (pc := 118) 0 dX11_init_118 rfl ?_
  refine NV_bipush (pc := 119) (v := 56) dX11_init_119 (by decide) ?_
  refine NV_newI (pc := 121) (N := 56) (a := b + 13) (L' := [.inr (11, [.int 0, .int 0, .ref (b + 1), .ref (b + 2), .int 0, .ref (b + 3), .ref (b + 4), .ref (b + 5), .ref (b + 6), .ref (b + 7), .ref (b + 8), .int (-1), .int 2, .int 0, .ref (b + 9), .ref (b + 10), .ref (b + 11), .ref (b + 12), .null, .null, .null, .long 0, .null, .int 0, .null, .long 0, .long 0, .long 0, .long 0, .int 0, .null, .int 0, .int 0, .long 0, .long 0, .long 0, .null, .null, .null, .null, .null, .int 0]), .inl (E.2.2 0, (14, .inl fun _ => 0)), .inl (E.2.2 0, (14, .inl fun _ => 0)), .inl (E.2.2 0, (150, .inl fun _ => 0)), .inl (E.2.2 0, (150, .inl fun _ => 0)), .inl (E.2.2 0, (150, .inl fun _ => 0)), .inl (E.2.2 0, (150, .inl fun _ => 0)), .inl (E.2.2 0, (150, .inl fun _ => 0)), .inl (E.2.2 0, (150, .inl fun _ => 0)), .inl (E.2.2 0, (4, .inl fun _ => 0)), .inl (E.2.2 0, (600, .inl fun _ => 0)), .inl (E.2.2 1, (600, .inr (.inl fun _ => 0))), .inl (E.2.2 0, (600, .inl fun _ => 0)), .inl (E.2.2 0, (56, .inl fun _ => 0))]) dX11_init_121 aw_I (by decide) (by decide) (by decide) (Nat.le_of_ble_eq_true rfl) (Nat.le_of_ble_eq_true rfl) rfl rfl ?_
  refine NV_putF (pc := 123) (q0 := 0) (v := .ref (b + 13)) (L' := [.inr (11, [.int 0, .int 0, .ref (b + 1), .ref (b + 2), .int 0, .ref (b + 3), .ref (b + 4), .ref (b + 5), .ref (b + 6), .ref (b + 7), .ref (b + 8), .int (-1), .int 2, .int 0, .ref (b + 9), .ref (b + 10), .ref (b + 11), .ref (b + 12), .ref (b + 13), .null, .null, .long 0, .null, .int 0, .null, .long 0, .long 0, .long 0, .long 0, .int 0, .null, .int 0, .int 0, .long 0, .long 0, .long 0, .null, .null, .null, .null, .null, .int 0]), .inl (E.2.2 0, (14, .inl fun _ => 0)), .inl (E.2.2 0, (14, .inl fun _ => 0)), .inl (E.2.2 0, (150, .inl fun _ => 0)), .inl (E.2.2 0, (150, .inl fun _ => 0)), .inl (E.2.2 0, (150, .inl fun _ => 0)), .inl (E.2.2 0, (150, .inl fun _ => 0)), .inl (E.2.2 0, (150, .inl fun _ => 0)), .inl (E.2.2 0, (150, .inl fun _ => 0)), .inl (E.2.2 0, (4, .inl fun _ => 0)), .inl (E.2.2 0, (600, .inl fun _ => 0)), .inl (E.2.2 1, (600, .inr (.inl fun _ => 0))), .inl (E.2.2 0, (600, .inl fun _ => 0)), .inl (E.2.2 0, (56, .inl fun _ => 0))]) dX11_init_123 fl_X11_54 pf_X11_18 rfl rfl (Nat.le_of_ble_eq_true rfl) rfl rfl rfl rfl ?_
  refine NV_aload_n (pc := 126) 0 dX11_init_126 rfl ?_
  refine NV_bipush (pc := 127) (v := 56) dX11_init_127 (by decide) ?_
  refine NV_newJ (pc := 129) (N := 56) (a := b + 14) (L' := [.inr (11, [.int 0, .int 0, .ref (b + 1), .ref (b + 2), .int 0, .ref (b + 3), .ref (b + 4), .ref (b + 5), .ref (b + 6), .ref (b + 7), .ref (b + 8), .int (-1), .int 2, .int 0, .ref (b + 9), .ref (b + 10), .ref (b + 11), .ref (b + 12), .ref (b + 13), .null, .null, .long 0, .null, .int 0, .null, .long 0, .long 0, .long 0, .long 0, .int 0, .null, .int 0, .int 0, .long 0, .long 0, .long 0, .null, .null, .null, .null, .null, .int 0]), .inl (E.2.2 0, (14, .inl fun _ => 0)), .inl (E.2.2 0, (14, .inl fun _ => 0)), .inl (E.2.2 0, (150, .inl fun _ => 0)), .inl (E.2.2 0, (150, .inl fun _ => 0)), .inl (E.2.2 0, (150, .inl fun _ => 0)), .inl (E.2.2 0, (150, .inl fun _ => 0)), .inl (E.2.2 0, (150, .inl fun _ => 0)), .inl (E.2.2 0, (150, .inl fun _ => 0)), .inl (E.2.2 0, (4, .inl fun _ => 0)), .inl (E.2.2 0, (600, .inl fun _ => 0)), .inl (E.2.2 1, (600, .inr (.inl fun _ => 0))), .inl (E.2.2 0, (600, .inl fun _ => 0)), .inl (E.2.2 0, (56, .inl fun _ => 0)), .inl (E.2.2 1, (56, .inr (.inl fun _ => 0)))]) dX11_init_129 aw_J (by decide) (by decide) (by decide) (Nat.le_of_ble_eq_true rfl) (Nat.le_of_ble_eq_true rfl) rfl rfl ?_
  refine NV_putF (pc := 131) (q0 := 0) (v := .ref (b + 14)) (L' := [.inr (11, [.int 0, .int 0, .ref (b + 1), .ref (b + 2), .int 0, .ref (b + 3), .ref (b + 4), .ref (b + 5), .ref (b + 6), .ref (b + 7), .ref (b + 8), .int (-1), .int 2, .int 0, .ref (b + 9), .ref (b + 10), .ref (b + 11), .ref (b + 12), .ref (b + 13), .ref (b + 14), .null, .long 0, .null, .int 0, .null, .long 0, .long 0, .long 0, .long 0, .int 0, .null, .int 0, .int 0, .long 0, .long 0, .long 0, .null, .null, .null, .null, .null, .int 0]), .inl (E.2.2 0, (14, .inl fun _ => 0)), .inl (E.2.2 0, (14, .inl fun _ => 0)), .inl (E.2.2 0, (150, .inl fun _ => 0)), .inl (E.2.2 0, (150, .inl fun _ => 0)), .inl (E.2.2 0, (150, .inl fun _ => 0)), .inl (E.2.2 0, (150, .inl fun _ => 0)), .inl (E.2.2 0, (150, .inl fun _ => 0)), .inl (E.2.2 0, (150, .inl fun _ => 0)), .inl (E.2.2 0, (4, .inl fun _ => 0)), .inl (E.2.2 0, (600, .inl fun _ => 0)), .inl (E.2.2 1, (600, .inr (.inl fun _ => 0))), .inl (E.2.2 0, (600, .inl fun _ => 0)), .inl (E.2.2 0, (56, .inl fun _ => 0)), .inl (E.2.2 1, (56, .inr (.inl fun _ => 0)))]) dX11_init_131 fl_X11_57 pf_X11_19 rfl rfl (Nat.le_of_ble_eq_true rfl) rfl rfl rfl rfl ?_
  refine NV_aload_n (pc := 134) 0 dX11_init_134 rfl ?_
  refine NV_bipush (pc := 135) (v := 14) dX11_init_135 (by decide) ?_
  refine NV_newI (pc := 137) (N := 14) (a := b + 15) (L' := [.inr (11, [.int 0, .int 0, .ref (b + 1), .ref (b + 2), .int 0, .ref (b + 3), .ref (b + 4), .ref (b + 5), .ref (b + 6), .ref (b + 7), .ref (b + 8), .int (-1), .int 2, .int 0, .ref (b + 9), .ref (b + 10), .ref (b + 11), .ref (b + 12), .ref (b + 13), .ref (b + 14), .null, .long 0, .null, .int 0, .null, .long 0, .long 0, .long 0, .long 0, .int 0, .null, .int 0, .int 0, .long 0, .long 0, .long 0, .null, .null, .null, .null, .null, .int 0]), .inl (E.2.2 0, (14, .inl fun _ => 0)), .inl (E.2.2 0, (14, .inl fun _ => 0)), .inl (E.2.2 0, (150, .inl fun _ => 0)), .inl (E.2.2 0, (150, .inl fun _ => 0)), .inl (E.2.2 0, (150, .inl fun _ => 0)), .inl (E.2.2 0, (150, .inl fun _ => 0)), .inl (E.2.2 0, (150, .inl fun _ => 0)), .inl (E.2.2 0, (150, .inl fun _ => 0)), .inl (E.2.2 0, (4, .inl fun _ => 0)), .inl (E.2.2 0, (600, .inl fun _ => 0)), .inl (E.2.2 1, (600, .inr (.inl fun _ => 0))), .inl (E.2.2 0, (600, .inl fun _ => 0)), .inl (E.2.2 0, (56, .inl fun _ => 0)), .inl (E.2.2 1, (56, .inr (.inl fun _ => 0))), .inl (E.2.2 0, (14, .inl fun _ => 0))]) dX11_init_137 aw_I (by decide) (by decide) (by decide) (Nat.le_of_ble_eq_true rfl) (Nat.le_of_ble_eq_true rfl) rfl rfl ?_
  refine NV_putF (pc := 139) (q0 := 0) (v := .ref (b + 15)) (L' := [.inr (11, [.int 0, .int 0, .ref (b + 1), .ref (b + 2), .int 0, .ref (b + 3), .ref (b + 4), .ref (b + 5), .ref (b + 6), .ref (b + 7), .ref (b + 8), .int (-1), .int 2, .int 0, .ref (b + 9), .ref (b + 10), .ref (b + 11), .ref (b + 12), .ref (b + 13), .ref (b + 14), .ref (b + 15), .long 0, .null, .int 0, .null, .long 0, .long 0, .long 0, .long 0, .int 0, .null, .int 0, .int 0, .long 0, .long 0, .long 0, .null, .null, .null, .null, .null, .int 0]), .inl (E.2.2 0, (14, .inl fun _ => 0)), .inl (E.2.2 0, (14, .inl fun _ => 0)), .inl (E.2.2 0, (150, .inl fun _ => 0)), .inl (E.2.2 0, (150, .inl fun _ => 0)), .inl (E.2.2 0, (150, .inl fun _ => 0)), .inl (E.2.2 0, (150, .inl fun _ => 0)), .inl (E.2.2 0, (150, .inl fun _ => 0)), .inl (E.2.2 0, (150, .inl fun _ => 0)), .inl (E.2.2 0, (4, .inl fun _ => 0)), .inl (E.2.2 0, (600, .inl fun _ => 0)), .inl (E.2.2 1, (600, .inr (.inl fun _ => 0))), .inl (E.2.2 0, (600, .inl fun _ => 0)), .inl (E.2.2 0, (56, .inl fun _ => 0)), .inl (E.2.2 1, (56, .inr (.inl fun _ => 0))), .inl (E.2.2 0, (14, .inl fun _ => 0))]) dX11_init_139 fl_X11_60 pf_X11_20 rfl rfl (Nat.le_of_ble_eq_true rfl) rfl rfl rfl rfl ?_
  refine NV_aload_n (pc := 142) 0 dX11_init_142 rfl ?_
  refine NV_bipush (pc := 143) (v := 14) dX11_init_143 (by decide) ?_
  refine NV_newJ (pc := 145) (N := 14) (a := b + 16) (L' := [.inr (11, [.int 0, .int 0, .ref (b + 1), .ref (b + 2), .int 0, .ref (b + 3), .ref (b + 4), .ref (b + 5), .ref (b + 6), .ref (b + 7), .ref (b + 8), .int (-1), .int 2, .int 0, .ref (b + 9), .ref (b + 10), .ref (b + 11), .ref (b + 12), .ref (b + 13), .ref (b + 14), .ref (b + 15), .long 0, .null, .int 0, .null, .long 0, .long 0, .long 0, .long 0, .int 0, .null, .int 0, .int 0, .long 0, .long 0, .long 0, .null, .null, .null, .null, .null, .int 0]), .inl (E.2.2 0, (14, .inl fun _ => 0)), .inl (E.2.2 0, (14, .inl fun _ => 0)), .inl (E.2.2 0, (150, .inl fun _ => 0)), .inl (E.2.2 0, (150, .inl fun _ => 0)), .inl (E.2.2 0, (150, .inl fun _ => 0)), .inl (E.2.2 0, (150, .inl fun _ => 0)), .inl (E.2.2 0, (150, .inl fun _ => 0)), .inl (E.2.2 0, (150, .inl fun _ => 0)), .inl (E.2.2 0, (4, .inl fun _ => 0)), .inl (E.2.2 0, (600, .inl fun _ => 0)), .inl (E.2.2 1, (600, .inr (.inl fun _ => 0))), .inl (E.2.2 0, (600, .inl fun _ => 0)), .inl (E.2.2 0, (56, .inl fun _ => 0)), .inl (E.2.2 1, (56, .inr (.inl fun _ => 0))), .inl (E.2.2 0, (14, .inl fun _ => 0)), .inl (E.2.2 1, (14, .inr (.inl fun _ => 0)))]) dX11_init_145 aw_J (by decide) (by decide) (by decide) (Nat.le_of_ble_eq_true rfl) (Nat.le_of_ble_eq_true rfl) rfl rfl ?_
  refine NV_putF (pc := 147) (q0 := 0) (v := .ref (b + 16)) (L' := [.inr (11, [.int 0, .int 0, .ref (b + 1), .ref (b + 2), .int 0, .ref (b + 3), .ref (b + 4), .ref (b + 5), .ref (b + 6), .ref (b + 7), .ref (b + 8), .int (-1), .int 2, .int 0, .ref (b + 9), .ref (b + 10), .ref (b + 11), .ref (b + 12), .ref (b + 13), .ref (b + 14), .ref (b + 15), .long 0, .ref (b + 16), .int 0, .null, .long 0, .long 0, .long 0, .long 0, .int 0, .null, .int 0, .int 0, .long 0, .long 0, .long 0, .null, .null, .null, .null, .null, .int 0]), .inl (E.2.2 0, (14, .inl fun _ => 0)), .inl (E.2.2 0, (14, .inl fun _ => 0)), .inl (E.2.2 0, (150, .inl fun _ => 0)), .inl (E.2.2 0, (150, .inl fun _ => 0)), .inl (E.2.2 0, (150, .inl fun _ => 0)), .inl (E.2.2 0, (150, .inl fun _ => 0)), .inl (E.2.2 0, (150, .inl fun _ => 0)), .inl (E.2.2 0, (150, .inl fun _ => 0)), .inl (E.2.2 0, (4, .inl fun _ => 0)), .inl (E.2.2 0, (600, .inl fun _ => 0)), .inl (E.2.2 1, (600, .inr (.inl fun _ => 0))), .inl (E.2.2 0, (600, .inl fun _ => 0)), .inl (E.2.2 0, (56, .inl fun _ => 0)), .inl (E.2.2 1, (56, .inr (.inl fun _ => 0))), .inl (E.2.2 0, (14, .inl fun _ => 0)), .inl (E.2.2 1, (14, .inr (.inl fun _ => 0)))]) dX11_init_147 fl_X11_63 pf_X11_22 rfl rfl (Nat.le_of_ble_eq_true rfl) rfl rfl rfl rfl ?_
  refine NV_aload_n (pc := 150) 0 dX11_init_150 rfl ?_
  refine NV_bipush (pc := 151) (v := 105) dX11_init_151 (by decide) ?_
  refine NV_newJ (pc := 153) (N := 105) (a := b + 17) (L' := [.inr (11, [.int 0, .int 0, .ref (b + 1), .ref (b + 2), .int 0, .ref (b + 3), .ref (b + 4), .ref (b + 5), .ref (b + 6), .ref (b + 7), .ref (b + 8), .int (-1), .int 2, .int 0, .ref (b + 9), .ref (b + 10), .ref (b + 11), .ref (b + 12), .ref (b + 13), .ref (b + 14), .ref (b + 15), .long 0, .ref (b + 16), .int 0, .null, .long 0, .long 0, .long 0, .long 0, .int 0, .null, .int 0, .int 0, .long 0, .long 0, .long 0, .null, .null, .null, .null, .null, .int 0]), .inl (E.2.2 0, (14, .inl fun _ => 0)), .inl (E.2.2 0, (14, .inl fun _ => 0)), .inl (E.2.2 0, (150, .inl fun _ => 0)), .inl (E.2.2 0, (150, .inl fun _ => 0)), .inl (E.2.2 0, (150, .inl fun _ => 0)), .inl (E.2.2 0, (150, .inl fun _ => 0)), .inl (E.2.2 0, (150, .inl fun _ => 0)), .inl (E.2.2 0, (150, .inl fun _ => 0)), .inl (E.2.2 0, (4, .inl fun _ => 0)), .inl (E.2.2 0, (600, .inl fun _ => 0)), .inl (E.2.2 1, (600, .inr (.inl fun _ => 0))), .inl (E.2.2 0, (600, .inl fun _ => 0)), .inl (E.2.2 0, (56, .inl fun _ => 0)), .inl (E.2.2 1, (56, .inr (.inl fun _ => 0))), .inl (E.2.2 0, (14, .inl fun _ => 0)), .inl (E.2.2 1, (14, .inr (.inl fun _ => 0))), .inl (E.2.2 1, (105, .inr (.inl fun _ => 0)))]) dX11_init_153 aw_J (by decide) (by decide) (by decide) (Nat.le_of_ble_eq_true rfl) (Nat.le_of_ble_eq_true rfl) rfl rfl ?_
  refine NV_putF (pc := 155) (q0 := 0) (v := .ref (b + 17)) (L' := [.inr (11, [.int 0, .int 0, .ref (b + 1), .ref (b + 2), .int 0, .ref (b + 3), .ref (b + 4), .ref (b + 5), .ref (b + 6), .ref (b + 7), .ref (b + 8), .int (-1), .int 2, .int 0, .ref (b + 9), .ref (b + 10), .ref (b + 11), .ref (b + 12), .ref (b + 13), .ref (b + 14), .ref (b + 15), .long 0, .ref (b + 16), .int 0, .ref (b + 17), .long 0, .long 0, .long 0, .long 0, .int 0, .null, .int 0, .int 0, .long 0, .long 0, .long 0, .null, .null, .null, .null, .null, .int 0]), .inl (E.2.2 0, (14, .inl fun _ => 0)), .inl (E.2.2 0, (14, .inl fun _ => 0)), .inl (E.2.2 0, (150, .inl fun _ => 0)), .inl (E.2.2 0, (150, .inl fun _ => 0)), .inl (E.2.2 0, (150, .inl fun _ => 0)), .inl (E.2.2 0, (150, .inl fun _ => 0)), .inl (E.2.2 0, (150, .inl fun _ => 0)), .inl (E.2.2 0, (150, .inl fun _ => 0)), .inl (E.2.2 0, (4, .inl fun _ => 0)), .inl (E.2.2 0, (600, .inl fun _ => 0)), .inl (E.2.2 1, (600, .inr (.inl fun _ => 0))), .inl (E.2.2 0, (600, .inl fun _ => 0)), .inl (E.2.2 0, (56, .inl fun _ => 0)), .inl (E.2.2 1, (56, .inr (.inl fun _ => 0))), .inl (E.2.2 0, (14, .inl fun _ => 0)), .inl (E.2.2 1, (14, .inr (.inl fun _ => 0))), .inl (E.2.2 1, (105, .inr (.inl fun _ => 0)))]) dX11_init_155 fl_X11_66 pf_X11_24 rfl rfl (Nat.le_of_ble_eq_true rfl) rfl rfl rfl rfl ?_
  refine NV_aload_n (pc := 158) 0 dX11_init_158 rfl ?_
  refine NV_bipush (pc := 159) (v := 60) dX11_init_159 (by decide) ?_
  refine NV_newI (pc := 161) (N := 60) (a := b + 18) (L' := [.inr (11, [.int 0, .int 0, .ref (b + 1), .ref (b + 2), .int 0, .ref (b + 3), .ref (b + 4), .ref (b + 5), .ref (b + 6), .ref (b + 7), .ref (b + 8), .int (-1), .int 2, .int 0, .ref (b + 9), .ref (b + 10), .ref (b + 11), .ref (b + 12), .ref (b + 13), .ref (b + 14), .ref (b + 15), .long 0, .ref (b + 16), .int 0, .ref (b + 17), .long 0, .long 0, .long 0, .long 0, .int 0, .null, .int 0, .int 0, .long 0, .long 0, .long 0, .null, .null, .null, .null, .null, .int 0]), .inl (E.2.2 0, (14, .inl fun _ => 0)), .inl (E.2.2 0, (14, .inl fun _ => 0)), .inl (E.2.2 0, (150, .inl fun _ => 0)), .inl (E.2.2 0, (150, .inl fun _ => 0)), .inl (E.2.2 0, (150, .inl fun _ => 0)), .inl (E.2.2 0, (150, .inl fun _ => 0)), .inl (E.2.2 0, (150, .inl fun _ => 0)), .inl (E.2.2 0, (150, .inl fun _ => 0)), .inl (E.2.2 0, (4, .inl fun _ => 0)), .inl (E.2.2 0, (600, .inl fun _ => 0)), .inl (E.2.2 1, (600, .inr (.inl fun _ => 0))), .inl (E.2.2 0, (600, .inl fun _ => 0)), .inl (E.2.2 0, (56, .inl fun _ => 0)), .inl (E.2.2 1, (56, .inr (.inl fun _ => 0))), .inl (E.2.2 0, (14, .inl fun _ => 0)), .inl (E.2.2 1, (14, .inr (.inl fun _ => 0))), .inl (E.2.2 1, (105, .inr (.inl fun _ => 0))), .inl (E.2.2 0, (60, .inl fun _ => 0))]) dX11_init_161 aw_I (by decide) (by decide) (by decide) (Nat.le_of_ble_eq_true rfl) (Nat.le_of_ble_eq_true rfl) rfl rfl ?_
  refine NV_putF (pc := 163) (q0 := 0) (v := .ref (b + 18)) (L' := [.inr (11, [.int 0, .int 0, .ref (b + 1), .ref (b + 2), .int 0, .ref (b + 3), .ref (b + 4), .ref (b + 5), .ref (b + 6), .ref (b + 7), .ref (b + 8), .int (-1), .int 2, .int 0, .ref (b + 9), .ref (b + 10), .ref (b + 11), .ref (b + 12), .ref (b + 13), .ref (b + 14), .ref (b + 15), .long 0, .ref (b + 16), .int 0, .ref (b + 17), .long 0, .long 0, .long 0, .long 0, .int 0, .ref (b + 18), .int 0, .int 0, .long 0, .long 0, .long 0, .null, .null, .null, .null, .null, .int 0]), .inl (E.2.2 0, (14, .inl fun _ => 0)), .inl (E.2.2 0, (14, .inl fun _ => 0)), .inl (E.2.2 0, (150, .inl fun _ => 0)), .inl (E.2.2 0, (150, .inl fun _ => 0)), .inl (E.2.2 0, (150, .inl fun _ => 0)), .inl (E.2.2 0, (150, .inl fun _ => 0)), .inl (E.2.2 0, (150, .inl fun _ => 0)), .inl (E.2.2 0, (150, .inl fun _ => 0)), .inl (E.2.2 0, (4, .inl fun _ => 0)), .inl (E.2.2 0, (600, .inl fun _ => 0)), .inl (E.2.2 1, (600, .inr (.inl fun _ => 0))), .inl (E.2.2 0, (600, .inl fun _ => 0)), .inl (E.2.2 0, (56, .inl fun _ => 0)), .inl (E.2.2 1, (56, .inr (.inl fun _ => 0))), .inl (E.2.2 0, (14, .inl fun _ => 0)), .inl (E.2.2 1, (14, .inr (.inl fun _ => 0))), .inl (E.2.2 1, (105, .inr (.inl fun _ => 0))), .inl (E.2.2 0, (60, .inl fun _ => 0))]) dX11_init_163 fl_X11_69 pf_X11_30 rfl rfl (Nat.le_of_ble_eq_true rfl) rfl rfl rfl rfl ?_
  refine NV_aload_n (pc := 166) 0 dX11_init_166 rfl ?_
  refine NV_iconst (pc := 167) (v := 4) dX11_init_167 (by decide) ?_
  refine NV_newZ (pc := 168) (N := 4) (a := b + 19) (L' := [.inr (11, [.int 0, .int 0, .ref (b + 1), .ref (b + 2), .int 0, .ref (b + 3), .ref (b + 4), .ref (b + 5), .ref (b + 6), .ref (b + 7), .ref (b + 8), .int (-1), .int 2, .int 0, .ref (b + 9), .ref (b + 10), .ref (b + 11), .ref (b + 12), .ref (b + 13), .ref (b + 14), .ref (b + 15), .long 0, .ref (b + 16), .int 0, .ref (b + 17), .long 0, .long 0, .long 0, .long 0, .int 0, .ref (b + 18), .int 0, .int 0, .long 0, .long 0, .long 0, .null, .null, .null, .null, .null, .int 0]), .inl (E.2.2 0, (14, .inl fun _ => 0)), .inl (E.2.2 0, (14, .inl fun _ => 0)), .inl (E.2.2 0, (150, .inl fun _ => 0)), .inl (E.2.2 0, (150, .inl fun _ => 0)), .inl (E.2.2 0, (150, .inl fun _ => 0)), .inl (E.2.2 0, (150, .inl fun _ => 0)), .inl (E.2.2 0, (150, .inl fun _ => 0)), .inl (E.2.2 0, (150, .inl fun _ => 0)), .inl (E.2.2 0, (4, .inl fun _ => 0)), .inl (E.2.2 0, (600, .inl fun _ => 0)), .inl (E.2.2 1, (600, .inr (.inl fun _ => 0))), .inl (E.2.2 0, (600, .inl fun _ => 0)), .inl (E.2.2 0, (56, .inl fun _ => 0)), .inl (E.2.2 1, (56, .inr (.inl fun _ => 0))), .inl (E.2.2 0, (14, .inl fun _ => 0)), .inl (E.2.2 1, (14, .inr (.inl fun _ => 0))), .inl (E.2.2 1, (105, .inr (.inl fun _ => 0))), .inl (E.2.2 0, (60, .inl fun _ => 0)), .inl (E.2.2 2, (4, .inl fun _ => 0))]) dX11_init_168 aw_Z (by decide) (by decide) (by decide) (Nat.le_of_ble_eq_true rfl) (Nat.le_of_ble_eq_true rfl) rfl rfl ?_
  refine NV_putF (pc := 170) (q0 := 0) (v := .ref (b + 19)) (L' := [.inr (11, [.int 0, .int 0, .ref (b + 1), .ref (b + 2), .int 0, .ref (b + 3), .ref (b + 4), .ref (b + 5), .ref (b + 6), .ref (b + 7), .ref (b + 8), .int (-1), .int 2, .int 0, .ref (b + 9), .ref (b + 10), .ref (b + 11), .ref (b + 12), .ref (b + 13), .ref (b + 14), .ref (b + 15), .long 0, .ref (b + 16), .int 0, .ref (b + 17), .long 0, .long 0, .long 0, .long 0, .int 0, .ref (b + 18), .int 0, .int 0, .long 0, .long 0, .long 0, .ref (b + 19), .null, .null, .null, .null, .int 0]), .inl (E.2.2 0, (14, .inl fun _ => 0)), .inl (E.2.2 0, (14, .inl fun _ => 0)), .inl (E.2.2 0, (150, .inl fun _ => 0)), .inl (E.2.2 0, (150, .inl fun _ => 0)), .inl (E.2.2 0, (150, .inl fun _ => 0)), .inl (E.2.2 0, (150, .inl fun _ => 0)), .inl (E.2.2 0, (150, .inl fun _ => 0)), .inl (E.2.2 0, (150, .inl fun _ => 0)), .inl (E.2.2 0, (4, .inl fun _ => 0)), .inl (E.2.2 0, (600, .inl fun _ => 0)), .inl (E.2.2 1, (600, .inr (.inl fun _ => 0))), .inl (E.2.2 0, (600, .inl fun _ => 0)), .inl (E.2.2 0, (56, .inl fun _ => 0)), .inl (E.2.2 1, (56, .inr (.inl fun _ => 0))), .inl (E.2.2 0, (14, .inl fun _ => 0)), .inl (E.2.2 1, (14, .inr (.inl fun _ => 0))), .inl (E.2.2 1, (105, .inr (.inl fun _ => 0))), .inl (E.2.2 0, (60, .inl fun _ => 0)), .inl (E.2.2 2, (4, .inl fun _ => 0))]) dX11_init_170 fl_X11_72 pf_X11_36 rfl rfl (Nat.le_of_ble_eq_true rfl) rfl rfl rfl rfl ?_
  refine NV_aload_n (pc := 173) 0 dX11_init_173 rfl ?_
  refine NV_iconst (pc := 174) (v := 4) dX11_init_174 (by decide) ?_
  refine NV_newI (pc := 175) (N := 4) (a := b + 20) (L' := [.inr (11, [.int 0, .int 0, .ref (b + 1), .ref (b + 2), .int 0, .ref (b + 3), .ref (b + 4), .ref (b + 5), .ref (b + 6), .ref (b + 7), .ref (b + 8), .int (-1), .int 2, .int 0, .ref (b + 9), .ref (b + 10), .ref (b + 11), .ref (b + 12), .ref (b + 13), .ref (b + 14), .ref (b + 15), .long 0, .ref (b + 16), .int 0, .ref (b + 17), .long 0, .long 0, .long 0, .long 0, .int 0, .ref (b + 18), .int 0, .int 0, .long 0, .long 0, .long 0, .ref (b + 19), .null, .null, .null, .null, .int 0]), .inl (E.2.2 0, (14, .inl fun _ => 0)), .inl (E.2.2 0, (14, .inl fun _ => 0)), .inl (E.2.2 0, (150, .inl fun _ => 0)), .inl (E.2.2 0, (150, .inl fun _ => 0)), .inl (E.2.2 0, (150, .inl fun _ => 0)), .inl (E.2.2 0, (150, .inl fun _ => 0)), .inl (E.2.2 0, (150, .inl fun _ => 0)), .inl (E.2.2 0, (150, .inl fun _ => 0)), .inl (E.2.2 0, (4, .inl fun _ => 0)), .inl (E.2.2 0, (600, .inl fun _ => 0)), .inl (E.2.2 1, (600, .inr (.inl fun _ => 0))), .inl (E.2.2 0, (600, .inl fun _ => 0)), .inl (E.2.2 0, (56, .inl fun _ => 0)), .inl (E.2.2 1, (56, .inr (.inl fun _ => 0))), .inl (E.2.2 0, (14, .inl fun _ => 0)), .inl (E.2.2 1, (14, .inr (.inl fun _ => 0))), .inl (E.2.2 1, (105, .inr (.inl fun _ => 0))), .inl (E.2.2 0, (60, .inl fun _ => 0)), .inl (E.2.2 2, (4, .inl fun _ => 0)), .inl (E.2.2 0, (4, .inl fun _ => 0))]) dX11_init_175 aw_I (by decide) (by decide) (by decide) (Nat.le_of_ble_eq_true rfl) (Nat.le_of_ble_eq_true rfl) rfl rfl ?_
  refine NV_putF (pc := 177) (q0 := 0) (v := .ref (b + 20)) (L' := [.inr (11, [.int 0, .int 0, .ref (b + 1), .ref (b + 2), .int 0, .ref (b + 3), .ref (b + 4), .ref (b + 5), .ref (b + 6), .ref (b + 7), .ref (b + 8), .int (-1), .int 2, .int 0, .ref (b + 9), .ref (b + 10), .ref (b + 11), .ref (b + 12), .ref (b + 13), .ref (b + 14), .ref (b + 15), .long 0, .ref (b + 16), .int 0, .ref (b + 17), .long 0, .long 0, .long 0, .long 0, .int 0, .ref (b + 18), .int 0, .int 0, .long 0, .long 0, .long 0, .ref (b + 19), .ref (b + 20), .null, .null, .null, .int 0]), .inl (E.2.2 0, (14, .inl fun _ => 0)), .inl (E.2.2 0, (14, .inl fun _ => 0)), .inl (E.2.2 0, (150, .inl fun _ => 0)), .inl (E.2.2 0, (150, .inl fun _ => 0)), .inl (E.2.2 0, (150, .inl fun _ => 0)), .inl (E.2.2 0, (150, .inl fun _ => 0)), .inl (E.2.2 0, (150, .inl fun _ => 0)), .inl (E.2.2 0, (150, .inl fun _ => 0)), .inl (E.2.2 0, (4, .inl fun _ => 0)), .inl (E.2.2 0, (600, .inl fun _ => 0)), .inl (E.2.2 1, (600, .inr (.inl fun _ => 0))), .inl (E.2.2 0, (600, .inl fun _ => 0)), .inl (E.2.2 0, (56, .inl fun _ => 0)), .inl (E.2.2 1, (56, .inr (.inl fun _ => 0))), .inl (E.2.2 0, (14, .inl fun _ => 0)), .inl (E.2.2 1, (14, .inr (.inl fun _ => 0))), .inl (E.2.2 1, (105, .inr (.inl fun _ => 0))), .inl (E.2.2 0, (60, .inl fun _ => 0)), .inl (E.2.2 2, (4, .inl fun _ => 0)), .inl (E.2.2 0, (4, .inl fun _ => 0))]) dX11_init_177 fl_X11_76 pf_X11_37 rfl rfl (Nat.le_of_ble_eq_true rfl) rfl rfl rfl rfl ?_
  refine NV_aload_n (pc := 180) 0 dX11_init_180 rfl ?_
  refine NV_iconst (pc := 181) (v := 4) dX11_init_181 (by decide) ?_
  refine NV_newI (pc := 182) (N := 4) (a := b + 21) (L' := [.inr (11, [.int 0, .int 0, .ref (b + 1), .ref (b + 2), .int 0, .ref (b + 3), .ref (b + 4), .ref (b + 5), .ref (b + 6), .ref (b + 7), .ref (b + 8), .int (-1), .int 2, .int 0, .ref (b + 9), .ref (b + 10), .ref (b + 11), .ref (b + 12), .ref (b + 13), .ref (b + 14), .ref (b + 15), .long 0, .ref (b + 16), .int 0, .ref (b + 17), .long 0, .long 0, .long 0, .long 0, .int 0, .ref (b + 18), .int 0, .int 0, .long 0, .long 0, .long 0, .ref (b + 19), .ref (b + 20), .null, .null, .null, .int 0]), .inl (E.2.2 0, (14, .inl fun _ => 0)), .inl (E.2.2 0, (14, .inl fun _ => 0)), .inl (E.2.2 0, (150, .inl fun _ => 0)), .inl (E.2.2 0, (150, .inl fun _ => 0)), .inl (E.2.2 0, (150, .inl fun _ => 0)), .inl (E.2.2 0, (150, .inl fun _ => 0)), .inl (E.2.2 0, (150, .inl fun _ => 0)), .inl (E.2.2 0, (150, .inl fun _ => 0)), .inl (E.2.2 0, (4, .inl fun _ => 0)), .inl (E.2.2 0, (600, .inl fun _ => 0)), .inl (E.2.2 1, (600, .inr (.inl fun _ => 0))), .inl (E.2.2 0, (600, .inl fun _ => 0)), .inl (E.2.2 0, (56, .inl fun _ => 0)), .inl (E.2.2 1, (56, .inr (.inl fun _ => 0))), .inl (E.2.2 0, (14, .inl fun _ => 0)), .inl (E.2.2 1, (14, .inr (.inl fun _ => 0))), .inl (E.2.2 1, (105, .inr (.inl fun _ => 0))), .inl (E.2.2 0, (60, .inl fun _ => 0)), .inl (E.2.2 2, (4, .inl fun _ => 0)), .inl (E.2.2 0, (4, .inl fun _ => 0)), .inl (E.2.2 0, (4, .inl fun _ => 0))]) dX11_init_182 aw_I (by decide) (by decide) (by decide) (Nat.le_of_ble_eq_true rfl) (Nat.le_of_ble_eq_true rfl) rfl rfl ?_
  refine NV_putF (pc := 184) (q0 := 0) (v := .ref (b + 21)) (L' := [.inr (11, [.int 0, .int 0, .ref (b + 1), .ref (b + 2), .int 0, .ref (b + 3), .ref (b + 4), .ref (b + 5), .ref (b + 6), .ref (b + 7), .ref (b + 8), .int (-1), .int 2, .int 0, .ref (b + 9), .ref (b + 10), .ref (b + 11), .ref (b + 12), .ref (b + 13), .ref (b + 14), .ref (b + 15), .long 0, .ref (b + 16), .int 0, .ref (b + 17), .long 0, .long 0, .long 0, .long 0, .int 0, .ref (b + 18), .int 0, .int 0, .long 0, .long 0, .long 0, .ref (b + 19), .ref (b + 20), .ref (b + 21), .null, .null, .int 0]), .inl (E.2.2 0, (14, .inl fun _ => 0)), .inl (E.2.2 0, (14, .inl fun _ => 0)), .inl (E.2.2 0, (150, .inl fun _ => 0)), .inl (E.2.2 0, (150, .inl fun _ => 0)), .inl (E.2.2 0, (150, .inl fun _ => 0)), .inl (E.2.2 0, (150, .inl fun _ => 0)), .inl (E.2.2 0, (150, .inl fun _ => 0)), .inl (E.2.2 0, (150, .inl fun _ => 0)), .inl (E.2.2 0, (4, .inl fun _ => 0)), .inl (E.2.2 0, (600, .inl fun _ => 0)), .inl (E.2.2 1, (600, .inr (.inl fun _ => 0))), .inl (E.2.2 0, (600, .inl fun _ => 0)), .inl (E.2.2 0, (56, .inl fun _ => 0)), .inl (E.2.2 1, (56, .inr (.inl fun _ => 0))), .inl (E.2.2 0, (14, .inl fun _ => 0)), .inl (E.2.2 1, (14, .inr (.inl fun _ => 0))), .inl (E.2.2 1, (105, .inr (.inl fun _ => 0))), .inl (E.2.2 0, (60, .inl fun _ => 0)), .inl (E.2.2 2, (4, .inl fun _ => 0)), .inl (E.2.2 0, (4, .inl fun _ => 0)), .inl (E.2.2 0, (4, .inl fun _ => 0))]) dX11_init_184 fl_X11_79 pf_X11_38 rfl rfl (Nat.le_of_ble_eq_true rfl) rfl rfl rfl rfl ?_
  refine NV_aload_n (pc := 187) 0 dX11_init_187 rfl ?_
  refine NV_sipush (pc := 188) (v := 240) dX11_init_188 (by decide) ?_
  refine NV_newI (pc := 191) (N := 240) (a := b + 22) (L' := [.inr (11, [.int 0, .int 0, .ref (b + 1), .ref (b + 2), .int 0, .ref (b + 3), .ref (b + 4), .ref (b + 5), .ref (b + 6), .ref (b + 7), .ref (b + 8), .int (-1), .int 2, .int 0, .ref (b + 9), .ref (b + 10), .ref (b + 11), .ref (b + 12), .ref (b + 13), .ref (b + 14), .ref (b + 15), .long 0, .ref (b + 16), .int 0, .ref (b + 17), .long 0, .long 0, .long 0, .long 0, .int 0, .ref (b + 18), .int 0, .int 0, .long 0, .long 0, .long 0, .ref (b + 19), .ref (b + 20), .ref (b + 21), .null, .null, .int 0]), .inl (E.2.2 0, (14, .inl fun _ => 0)), .inl (E.2.2 0, (14, .inl fun _ => 0)), .inl (E.2.2 0, (150, .inl fun _ => 0)), .inl (E.2.2 0, (150, .inl fun _ => 0)), .inl (E.2.2 0, (150, .inl fun _ => 0)), .inl (E.2.2 0, (150, .inl fun _ => 0)), .inl (E.2.2 0, (150, .inl fun _ => 0)), .inl (E.2.2 0, (150, .inl fun _ => 0)), .inl (E.2.2 0, (4, .inl fun _ => 0)), .inl (E.2.2 0, (600, .inl fun _ => 0)), .inl (E.2.2 1, (600, .inr (.inl fun _ => 0))), .inl (E.2.2 0, (600, .inl fun _ => 0)), .inl (E.2.2 0, (56, .inl fun _ => 0)), .inl (E.2.2 1, (56, .inr (.inl fun _ => 0))), .inl (E.2.2 0, (14, .inl fun _ => 0)), .inl (E.2.2 1, (14, .inr (.inl fun _ => 0))), .inl (E.2.2 1, (105, .inr (.inl fun _ => 0))), .inl (E.2.2 0, (60, .inl fun _ => 0)), .inl (E.2.2 2, (4, .inl fun _ => 0)), .inl (E.2.2 0, (4, .inl fun _ => 0)), .inl (E.2.2 0, (4, .inl fun _ => 0)), .inl (E.2.2 0, (240, .inl fun _ => 0))]) dX11_init_191 aw_I (by decide) (by decide) (by decide) (Nat.le_of_ble_eq_true rfl) (Nat.le_of_ble_eq_true rfl) rfl rfl ?_
  refine NV_putF (pc := 193) (q0 := 0) (v := .ref (b + 22)) (L' := [.inr (11, [.int 0, .int 0, .ref (b + 1), .ref (b + 2), .int 0, .ref (b + 3), .ref (b + 4), .ref (b + 5), .ref (b + 6), .ref (b + 7), .ref (b + 8), .int (-1), .int 2, .int 0, .ref (b + 9), .ref (b + 10), .ref (b + 11), .ref (b + 12), .ref (b + 13), .ref (b + 14), .ref (b + 15), .long 0, .ref (b + 16), .int 0, .ref (b + 17), .long 0, .long 0, .long 0, .long 0, .int 0, .ref (b + 18), .int 0, .int 0, .long 0, .long 0, .long 0, .ref (b + 19), .ref (b + 20), .ref (b + 21), .ref (b + 22), .null, .int 0]), .inl (E.2.2 0, (14, .inl fun _ => 0)), .inl (E.2.2 0, (14, .inl fun _ => 0)), .inl (E.2.2 0, (150, .inl fun _ => 0)), .inl (E.2.2 0, (150, .inl fun _ => 0)), .inl (E.2.2 0, (150, .inl fun _ => 0)), .inl (E.2.2 0, (150, .inl fun _ => 0)), .inl (E.2.2 0, (150, .inl fun _ => 0)), .inl (E.2.2 0, (150, .inl fun _ => 0)), .inl (E.2.2 0, (4, .inl fun _ => 0)), .inl (E.2.2 0, (600, .inl fun _ => 0)), .inl (E.2.2 1, (600, .inr (.inl fun _ => 0))), .inl (E.2.2 0, (600, .inl fun _ => 0)), .inl (E.2.2 0, (56, .inl fun _ => 0)), .inl (E.2.2 1, (56, .inr (.inl fun _ => 0))), .inl (E.2.2 0, (14, .inl fun _ => 0)), .inl (E.2.2 1, (14, .inr (.inl fun _ => 0))), .inl (E.2.2 1, (105, .inr (.inl fun _ => 0))), .inl (E.2.2 0, (60, .inl fun _ => 0)), .inl (E.2.2 2, (4, .inl fun _ => 0)), .inl (E.2.2 0, (4, .inl fun _ => 0)), .inl (E.2.2 0, (4, .inl fun _ => 0)), .inl (E.2.2 0, (240, .inl fun _ => 0))]) dX11_init_193 fl_X11_82 pf_X11_39 rfl rfl (Nat.le_of_ble_eq_true rfl) rfl rfl rfl rfl ?_
  refine NV_aload_n (pc := 196) 0 dX11_init_196 rfl ?_
  refine NV_bipush (pc := 197) (v := 60) dX11_init_197 (by decide) ?_
  refine NV_newI (pc := 199) (N := 60) (a := b + 23) (L' := [.inr (11, [.int 0, .int 0, .ref (b + 1), .ref (b + 2), .int 0, .ref (b + 3), .ref (b + 4), .ref (b + 5), .ref (b + 6), .ref (b + 7), .ref (b + 8), .int (-1), .int 2, .int 0, .ref (b + 9), .ref (b + 10), .ref (b + 11), .ref (b + 12), .ref (b + 13), .ref (b + 14), .ref (b + 15), .long 0, .ref (b + 16), .int 0, .ref (b + 17), .long 0, .long 0, .long 0, .long 0, .int 0, .ref (b + 18), .int 0, .int 0, .long 0, .long 0, .long 0, .ref (b + 19), .ref (b + 20), .ref (b + 21), .ref (b + 22), .null, .int 0]), .inl (E.2.2 0, (14, .inl fun _ => 0)), .inl (E.2.2 0, (14, .inl fun _ => 0)), .inl (E.2.2 0, (150, .inl fun _ => 0)), .inl (E.2.2 0, (150, .inl fun _ => 0)), .inl (E.2.2 0, (150, .inl fun _ => 0)), .inl (E.2.2 0, (150, .inl fun _ => 0)), .inl (E.2.2 0, (150, .inl fun _ => 0)), .inl (E.2.2 0, (150, .inl fun _ => 0)), .inl (E.2.2 0, (4, .inl fun _ => 0)), .inl (E.2.2 0, (600, .inl fun _ => 0)), .inl (E.2.2 1, (600, .inr (.inl fun _ => 0))), .inl (E.2.2 0, (600, .inl fun _ => 0)), .inl (E.2.2 0, (56, .inl fun _ => 0)), .inl (E.2.2 1, (56, .inr (.inl fun _ => 0))), .inl (E.2.2 0, (14, .inl fun _ => 0)), .inl (E.2.2 1, (14, .inr (.inl fun _ => 0))), .inl (E.2.2 1, (105, .inr (.inl fun _ => 0))), .inl (E.2.2 0, (60, .inl fun _ => 0)), .inl (E.2.2 2, (4, .inl fun _ => 0)), .inl (E.2.2 0, (4, .inl fun _ => 0)), .inl (E.2.2 0, (4, .inl fun _ => 0)), .inl (E.2.2 0, (240, .inl fun _ => 0)), .inl (E.2.2 0, (60, .inl fun _ => 0))]) dX11_init_199 aw_I (by decide) (by decide) (by decide) (Nat.le_of_ble_eq_true rfl) (Nat.le_of_ble_eq_true rfl) rfl rfl ?_
  refine NV_putF (pc := 201) (q0 := 0) (v := .ref (b + 23)) (L' := [.inr (11, [.int 0, .int 0, .ref (b + 1), .ref (b + 2), .int 0, .ref (b + 3), .ref (b + 4), .ref (b + 5), .ref (b + 6), .ref (b + 7), .ref (b + 8), .int (-1), .int 2, .int 0, .ref (b + 9), .ref (b + 10), .ref (b + 11), .ref (b + 12), .ref (b + 13), .ref (b + 14), .ref (b + 15), .long 0, .ref (b + 16), .int 0, .ref (b + 17), .long 0, .long 0, .long 0, .long 0, .int 0, .ref (b + 18), .int 0, .int 0, .long 0, .long 0, .long 0, .ref (b + 19), .ref (b + 20), .ref (b + 21), .ref (b + 22), .ref (b + 23), .int 0]), .inl (E.2.2 0, (14, .inl fun _ => 0)), .inl (E.2.2 0, (14, .inl fun _ => 0)), .inl (E.2.2 0, (150, .inl fun _ => 0)), .inl (E.2.2 0, (150, .inl fun _ => 0)), .inl (E.2.2 0, (150, .inl fun _ => 0)), .inl (E.2.2 0, (150, .inl fun _ => 0)), .inl (E.2.2 0, (150, .inl fun _ => 0)), .inl (E.2.2 0, (150, .inl fun _ => 0)), .inl (E.2.2 0, (4, .inl fun _ => 0)), .inl (E.2.2 0, (600, .inl fun _ => 0)), .inl (E.2.2 1, (600, .inr (.inl fun _ => 0))), .inl (E.2.2 0, (600, .inl fun _ => 0)), .inl (E.2.2 0, (56, .inl fun _ => 0)), .inl (E.2.2 1, (56, .inr (.inl fun _ => 0))), .inl (E.2.2 0, (14, .inl fun _ => 0)), .inl (E.2.2 1, (14, .inr (.inl fun _ => 0))), .inl (E.2.2 1, (105, .inr (.inl fun _ => 0))), .inl (E.2.2 0, (60, .inl fun _ => 0)), .inl (E.2.2 2, (4, .inl fun _ => 0)), .inl (E.2.2 0, (4, .inl fun _ => 0)), .inl (E.2.2 0, (4, .inl fun _ => 0)), .inl (E.2.2 0, (240, .inl fun _ => 0)), .inl (E.2.2 0, (60, .inl fun _ => 0))]) dX11_init_201 fl_X11_85 pf_X11_40 rfl rfl (Nat.le_of_ble_eq_true rfl) rfl rfl rfl rfl ?_
  exact NV_ret (pc := 204) dX11_init_204 rfl (Nat.le_of_ble_eq_true rfl) (Nat.le_of_ble_eq_true rfl) rfl
